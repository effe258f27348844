/-! Lines of a mountain, both ways: suitors -/
section LNS
variable {E : EN} {n c a : Nat} {S S' Sc Sm : WS} {b : Nat → Int32} {L q : Nat} {R R' Rm : Nat → Int32}
theorem ix75 (s : Nat) : nI (73 + 3 * s) + (2 : Int32) = nI (75 + 3 * s) := by
  rw [show 75 + 3 * s = 73 + 3 * s + 2 by omega]; exact nI_add (73 + 3 * s) 2
theorem ix73 (s : Nat) : (73 : Int32) + (3 : Int32) * nI s = nI (73 + 3 * s) := by
  show nI 73 + nI 3 * nI s = _; rw [pk_mul, nI_add]
theorem J138_bad {k p s : Nat} (h : BAD E c k p S) (hs : s < 7) (w : Int32) : ∃ S', f_X9_readSuitor_J138 E n S (c + 129) (nI (73 + 3 * s)) w = some ((), S') ∧ FMo c S S' ∧ BAD E c k p S' := by
  obtain ⟨S1, hS1⟩ : ∃ S1, S1 = wi S (c + 135) (upd (ai S (c + 135)) (75 + 3 * s) w) := ⟨_, rfl⟩
  have b1 : BAD E c k p S1 := by rw [hS1]; exact h.w
  refine ⟨wi S1 (c + 135) (upd (ai S1 (c + 135)) 4 (ai S1 (c + 135) 4 + 1)), ?_, (by rw [hS1]; exact fm_w : FMo c S S1).tr fm_w, b1.w⟩
  simp only [f_X9_readSuitor_J138, h.fm.1, obs, h.fm.2, ix75, nI_clamp (show 75 + 3 * s < 2 ^ 31 by omega), ifn (rinc (show 75 + 3 * s < 109 by omega) (show 109 < 2 ^ 31 by omega)), lts]
  rw [← hS1]
  simp only [b1.fm.1, obs, h.fm.2, t4n, lts]
  rw [if_neg (by decide), if_neg (by decide)]
theorem L52_bad {k p s : Nat} (h : BAD E c k p S) (hn : 2 ≤ n) (hs : s < 7) (m : Int32) : ∃ S', f_X9_readSuitor_L52 E n n S (c + 129) (nI (73 + 3 * s)) m = some ((), S') ∧ FMo c S S' ∧ BAD E c k p S' := by
  obtain ⟨S', r1, r2, r3⟩ := J138_bad (n := n) h hs (m ||| ((1 : Int32) <<< (0 &&& 31)))
  refine ⟨S', ?_, r2, r3⟩
  obtain ⟨t, ht⟩ : ∃ t, n = t + 1 := ⟨n - 1, by omega⟩
  have : ∀ n0, f_X9_readSuitor_L52 E n0 n S (c + 129) (nI (73 + 3 * s)) m = f_X9_readSuitor_J138 E n0 S (c + 129) (nI (73 + 3 * s)) (m ||| ((1 : Int32) <<< (0 &&& 31))) := by
    intro n0
    rw [ht]
    simp only [f_X9_readSuitor_L52, f_X9_readSuitor_J105, gd_f h, bds, if_true, h.fm.1, obs, h.fm.2, mg3, bad_num h, lts]
  rw [this n]; exact r1
theorem ln_sui (hs : RC E c a b L q R Sc) (hm : RM E c b L (bhd b L q) R Sm) (ha : a = c + 4 ∨ a = c + 17) (hn : 1500 ≤ n) (hw : WF R) (h0 : 0 < cP R) (hS : cS R < 7) : OUT E c a b L q R Sc Sm (f_X4_readSuitor E n Sc (c + 2) a) (f_X9_readSuitor E n Sm (c + 129)) := by
  have hB := hw.lB
  have hb := bhd_le (b := b) hs.2.2
  have hk := skp_le (b := b) hs.2.2
  have e74 : 73 + 3 * cS R + 1 = 74 + 3 * cS R := by omega
  obtain ⟨Sc1, g1, g2, g3⟩ := e_X4_go (n := n) hs ha hn
  have m4 : ai Sm (c + 135) (Int32.toNatClampNeg 4) = nI (cS R) := (hm.2.2.2.2.1 4 (by decide)).trans hw.s4
  obtain ⟨nt, hnt⟩ : ∃ t, n = t + 1 := ⟨n - 1, by omega⟩
  rcases tld2 (n := n) (w := 9) (lo := 0) (h1 := 31) (hi := 30) g3 hm ha hn (by decide) (by omega) (by omega) (by decide) with ⟨v, q1, Sc2, Sc3, Sm1, v1, v2, v3, x0, xr, x1, x2, x3, y1, y2, y3⟩ | ⟨k, p, Sc2, Sc3, Sm1, x1, x2, x3, y1, y2, y3⟩
  · have x1 : f_X4_takeNumber E n Sc2 (c + 2) 0 30 = some (nI v, Sc3) := x1
    have y1 : f_X9_told E n Sm (c + 129) 9 0 30 = some (nI v, Sm1) := y1
    obtain ⟨M1, hM1⟩ : ∃ M1, M1 = wi Sm1 (c + 135) (upd (ai Sm1 (c + 135)) (73 + 3 * cS R) (nI v)) := ⟨_, rfl⟩
    have r1 : RM E c b L q1 (upd R (73 + 3 * cS R) (nI v)) M1 := by rw [hM1]; exact y3.u _ _
    rcases tld2 (n := n) (w := 10) (lo := 0) (h1 := 101) (hi := 100) x3 r1 ha hn (by decide) (by omega) (by omega) (by decide) with ⟨w, q2, Sc4, Sc5, Sm2, w1, w2, w3, X0, Xr, X1, X2, X3, Y1, Y2, Y3⟩ | ⟨k, p, Sc4, Sc5, Sm2, X1, X2, X3, Y1, Y2, Y3⟩
    · have X1 : f_X4_takeNumber E n Sc4 (c + 2) 0 100 = some (nI w, Sc5) := X1
      have Y1 : f_X9_told E n M1 (c + 129) 10 0 100 = some (nI w, Sm2) := Y1
      obtain ⟨M2, hM2⟩ : ∃ M2, M2 = wi Sm2 (c + 135) (upd (ai Sm2 (c + 135)) (74 + 3 * cS R) (nI w)) := ⟨_, rfl⟩
      have r2 : RM E c b L q2 (upd (upd R (73 + 3 * cS R) (nI v)) (74 + 3 * cS R) (nI w)) M2 := by rw [hM2]; exact Y3.u _ _
      have FM2 : FMo c Sm M2 := ((y2.tr (by rw [hM1]; exact fm_w)).tr Y2).tr (by rw [hM2]; exact fm_w)
      have hb2 := bhd_le (b := b) X3.2.2
      have hk2 := skp_le (b := b) X3.2.2
      have cst : ∀ Z, f_X4_takeWord E n Sc5 (c + 2) 11 = some (1, Z) → f_X4_readSuitor E n Sc (c + 2) a = bd (f_X4_takeBrides_J23 E n (f_X4_takeBrides_L4 E n nt) Z (c + 2) a (nI 0) (nI (na 0 5))) fun v4 S3 => if v4 = (-1 : Int32) then some ((0 : Int32), S3) else (gr S3 140 a).bind fun b5 => if (gi S3 133 a) < 0 ∨ eN E b5 ≤ (gi S3 133 a).toNatClampNeg then none else lt (wi S3 b5 (upd (ai S3 b5) (gi S3 133 a).toNatClampNeg (nI v))) fun S6 => (gr S6 141 a).bind fun b7 => if (gi S6 133 a) < 0 ∨ eN E b7 ≤ (gi S6 133 a).toNatClampNeg then none else lt (wi S6 b7 (upd (ai S6 b7) (gi S6 133 a).toNatClampNeg (nI w))) fun S8 => (gr S8 142 a).bind fun b9 => if (gi S8 133 a) < 0 ∨ eN E b9 ≤ (gi S8 133 a).toNatClampNeg then none else lt (wi S8 b9 (upd (ai S8 b9) (gi S8 133 a).toNatClampNeg v4)) fun S10 => lt (si S10 133 a ((gi S10 133 a) + (1 : Int32))) fun S11 => some ((1 : Int32), S11) := by
        intro Z hZ
        have tb : f_X4_takeBrides E n Z (c + 2) a = f_X4_takeBrides_J23 E n (f_X4_takeBrides_L4 E n nt) Z (c + 2) a (nI 0) (nI (na 0 5)) := by
          have : ∀ n0, f_X4_takeBrides_L4 E n0 n Z (c + 2) a 0 0 = f_X4_takeBrides_J23 E n0 (f_X4_takeBrides_L4 E n0 nt) Z (c + 2) a 0 0 := by
            intro n0
            rw [hnt]
            simp only [f_X4_takeBrides_L4]
            rw [if_neg (by decide), if_pos (by decide)]
          exact this n
        simp only [f_X4_readSuitor, f_X4_readSuitor_J24, f_X4_readSuitor_J52, g1, bds, x0, if_neg o10, x1, if_neg (nIm1 (show v < 2 ^ 31 by omega)), X0, X1, if_neg (nIm1 (show w < 2 ^ 31 by omega)), hZ, tb]
      have mst : f_X9_readSuitor E n Sm (c + 129) = bd (f_X9_needs E n M2 (c + 129) 11) fun _ S11 => f_X9_readSuitor_L52 E n n S11 (c + 129) (nI (73 + 3 * cS R)) 0 := by
        simp only [f_X9_readSuitor, hm.2.2.1, obs, hm.2.2.2.1, mg4, m4, ix73, lts, y1, bds, nI_clamp (show 73 + 3 * cS R < 2 ^ 31 by omega), ifn (rinc (show 73 + 3 * cS R < 109 by omega) (show 109 < 2 ^ 31 by omega))]
        rw [← hM1]
        simp only [r1.2.2.1, obs, hm.2.2.2.1, Y1, bds, nI_1, e74, nI_clamp (show 74 + 3 * cS R < 2 ^ 31 by omega), ifn (rinc (show 74 + 3 * cS R < 109 by omega) (show 109 < 2 ^ 31 by omega)), lts]
        rw [← hM2]
      rcases wrd2 (n := n) (w := 11) X3 r2 ha hn (by decide) with ⟨Sc6, Sm3, s1, s2, s3, z1, z2, z3⟩ | ⟨k, p, Sc6, Sm3, s1, s2, s3, z1, z2, z3⟩
      · rw [cst Sc6 s1, mst, z1, bds]
        have key := brd2 (n := n) (Rm := upd (upd R (73 + 3 * cS R) (nI v)) (74 + 3 * cS R) (nI w)) ha hn hw (nI (73 + 3 * cS R)) 4 (bhd b L q2) 0 Sc6 Sm3 (by decide) (Nat.two_pow_pos _) s3 z3 ((pk_un (by omega)).trans (pk_un (by omega))) nt n (by omega) (by omega)
        rcases key with ⟨m', q', Sc7, Sm4, t1, t2, t3, t4, t5, t6, t7, t8, t9⟩ | ⟨k, p, Sc7, Sm4, ww, t1, t2, t3, t4, t5, t6⟩
        · have p4 : 2 ^ cB R ≤ 2 ^ 4 := Nat.pow_le_pow_right (by decide) hB
          have t7 : f_X9_readSuitor_L52 E n n Sm3 (c + 129) (nI (73 + 3 * cS R)) 0 = f_X9_readSuitor_J138 E n Sm4 (c + 129) (nI (73 + 3 * cS R)) (nI m') := t7
          have e133 : gi Sc7 133 a = nI (cS R) := t6.2.1.i133.trans hw.s4
          have g41 : ∀ g, gr (wi Sc7 (a + 6) g) 141 a = some (a + 7) := fun g => t6.2.1.g141
          have g42 : ∀ g g', gr (wi (wi Sc7 (a + 6) g) (a + 7) g') 142 a = some (a + 8) := fun g g' => t6.2.1.g142
          have i1 : ∀ g, gi (wi Sc7 (a + 6) g) 133 a = nI (cS R) := fun g => e133
          have i2 : ∀ g g', gi (wi (wi Sc7 (a + 6) g) (a + 7) g') 133 a = nI (cS R) := fun g g' => e133
          have i3 : ∀ g g' g'', gi (wi (wi (wi Sc7 (a + 6) g) (a + 7) g') (a + 8) g'') 133 a = nI (cS R) := fun g g' g'' => e133
          have a7 : ∀ g, ai (wi Sc7 (a + 6) g) (a + 7) = ai Sc7 (a + 7) := fun g => ai_wi_a (by omega)
          have a8 : ∀ g g', ai (wi (wi Sc7 (a + 6) g) (a + 7) g') (a + 8) = ai Sc7 (a + 8) := fun g g' => (ai_wi_a (by omega)).trans (ai_wi_a (by omega))
          obtain ⟨M4, hM4⟩ : ∃ M4, M4 = wi Sm4 (c + 135) (upd (ai Sm4 (c + 135)) (75 + 3 * cS R) (nI m')) := ⟨_, rfl⟩
          have r4 : RM E c b L q' (upd (upd (upd R (73 + 3 * cS R) (nI v)) (74 + 3 * cS R) (nI w)) (75 + 3 * cS R) (nI m')) M4 := by rw [hM4]; exact t9.u _ _
          have m44 : ai M4 (c + 135) 4 = nI (cS R) := (r4.2.2.2.2.1 4 (by decide)).trans ((pk_un (by omega)).trans ((pk_un (by omega)).trans ((pk_un (by omega)).trans hw.s4)))
          refine Or.inl ⟨q', upd (upd (upd (upd R (73 + 3 * cS R) (nI v)) (74 + 3 * cS R) (nI w)) (75 + 3 * cS R) (nI m')) 4 (nI (cS R + 1)), si (wi (wi (wi Sc7 (a + 6) (upd (ai Sc7 (a + 6)) (cS R) (nI v))) (a + 7) (upd (ai Sc7 (a + 7)) (cS R) (nI w))) (a + 8) (upd (ai Sc7 (a + 8)) (cS R) (nI m'))) 133 a (nI (cS R + 1)), wi M4 (c + 135) (upd (ai M4 (c + 135)) 4 (nI (cS R + 1))), ?_, ((((g2.tr x2).tr X2).tr s2).tr t5).tr ((((fc_w (by omega)).tr (fc_w (by omega))).tr (fc_w (by omega))).tr (fc_a (by omega))), t6.u (t6.2.1.uS ⟨hw.lA, hw.lB, hS, hw.lW⟩ _ _ _) (fun _ => rfl) (fun f => gi_si_a (by omega)) ((ai_wi_a (by omega)).trans ((ai_wi_a (by omega)).trans (ai_wi_a (by omega)))), ?_, ((FM2.tr z2).tr t8).tr ((by rw [hM4]; exact fm_w : FMo c Sm4 M4).tr fm_w), r4.u _ _, hw.uS h0 hS (by omega) (by omega) t1 t2, ?_, ?_, by omega⟩
          · rw [t4, bds, if_neg (nIm1 (show m' < 2 ^ 31 by omega))]
            simp only [t6.2.1.g140, obs, t6.2.1.n6, e133, nI_clamp (show cS R < 2 ^ 31 by omega), ifn (rinc hS (show 7 < 2 ^ 31 by omega)), lts, g41, t6.2.1.n7, i1, g42, t6.2.1.n8, i2, i3, a7, a8, nI_1]
          · rw [t7]
            simp only [f_X9_readSuitor_J138, t9.2.2.1, obs, hm.2.2.2.1, ix75, nI_clamp (show 75 + 3 * cS R < 2 ^ 31 by omega), ifn (rinc (show 75 + 3 * cS R < 109 by omega) (show 109 < 2 ^ 31 by omega)), lts]
            rw [← hM4]
            simp only [r4.2.2.1, obs, hm.2.2.2.1, t4n, m44, nI_1, lts]
            rw [if_neg (by decide), if_neg (by decide)]
          · show 0 < cP (upd (upd (upd (upd R (73 + 3 * cS R) (nI v)) (74 + 3 * cS R) (nI w)) (75 + 3 * cS R) (nI m')) 4 (nI (cS R + 1)))
            rw [show cP (upd (upd (upd (upd R (73 + 3 * cS R) (nI v)) (74 + 3 * cS R) (nI w)) (75 + 3 * cS R) (nI m')) 4 (nI (cS R + 1))) = cP R from cE ((pk_un (by omega)).trans ((pk_un (by omega)).trans ((pk_un (by omega)).trans (pk_un (by omega)))))]; exact h0
          · exact (pk_un (by omega)).trans ((pk_un (by omega)).trans ((pk_un (by omega)).trans (pk_un (by omega))))
        · have t4 : f_X9_readSuitor_L52 E n n Sm3 (c + 129) (nI (73 + 3 * cS R)) 0 = f_X9_readSuitor_J138 E n Sm4 (c + 129) (nI (73 + 3 * cS R)) ww := t4
          obtain ⟨Sm5, j1, j2, j3⟩ := J138_bad (n := n) t6 hS ww
          exact Or.inr ⟨k, p, Sc7, Sm5, by rw [t1, bds, if_pos rfl], (((g2.tr x2).tr X2).tr s2).tr t2, t3, by rw [t4, j1], ((FM2.tr z2).tr t5).tr j2, j3⟩
      · obtain ⟨Sm5, j1, j2, j3⟩ := L52_bad (n := n) z3 (by omega) hS 0
        refine Or.inr ⟨k, p, Sc6, Sm5, ?_, ((g2.tr x2).tr X2).tr s2, s3, by rw [mst, z1, bds, j1], (FM2.tr z2).tr j2, j3⟩
        simp only [f_X4_readSuitor, f_X4_readSuitor_J24, f_X4_readSuitor_J52, g1, bds, x0, if_neg o10, x1, if_neg (nIm1 (show v < 2 ^ 31 by omega)), X0, X1, if_neg (nIm1 (show w < 2 ^ 31 by omega)), s1, if_true]
    · have Y1 : f_X9_told E n M1 (c + 129) 10 0 100 = some (0, Sm2) := Y1
      obtain ⟨M2, hM2⟩ : ∃ M2, M2 = wi Sm2 (c + 135) (upd (ai Sm2 (c + 135)) (74 + 3 * cS R) 0) := ⟨_, rfl⟩
      have r2 : BAD E c k p M2 := by rw [hM2]; exact Y3.w
      obtain ⟨Sm5, j1, j2, j3⟩ := L52_bad (n := n) r2 (by omega) hS 0
      refine Or.inr ⟨k, p, Sc5, Sm5, ?_, (g2.tr x2).tr X2, X3, ?_, (((y2.tr (by rw [hM1]; exact fm_w)).tr Y2).tr (by rw [hM2]; exact fm_w)).tr j2, j3⟩
      · rcases X1 with X1 | ⟨X0, Xr, X1⟩
        · simp only [f_X4_readSuitor, f_X4_readSuitor_J24, f_X4_readSuitor_J52, g1, bds, x0, if_neg o10, x1, if_neg (nIm1 (show v < 2 ^ 31 by omega)), X1, if_true]
        · have X1 : f_X4_takeNumber E n Sc4 (c + 2) 0 100 = some (-1, Sc5) := X1
          simp only [f_X4_readSuitor, f_X4_readSuitor_J24, f_X4_readSuitor_J52, g1, bds, x0, if_neg o10, x1, if_neg (nIm1 (show v < 2 ^ 31 by omega)), X0, X1, if_true]
      · simp only [f_X9_readSuitor, hm.2.2.1, obs, hm.2.2.2.1, mg4, m4, ix73, lts, y1, bds, nI_clamp (show 73 + 3 * cS R < 2 ^ 31 by omega), ifn (rinc (show 73 + 3 * cS R < 109 by omega) (show 109 < 2 ^ 31 by omega))]
        rw [← hM1]
        simp only [r1.2.2.1, obs, hm.2.2.2.1, Y1, bds, nI_1, e74, nI_clamp (show 74 + 3 * cS R < 2 ^ 31 by omega), ifn (rinc (show 74 + 3 * cS R < 109 by omega) (show 109 < 2 ^ 31 by omega)), lts]
        rw [← hM2, bad_needs r2 (by omega), bds, j1]
  · have y1 : f_X9_told E n Sm (c + 129) 9 0 30 = some (0, Sm1) := y1
    obtain ⟨M1, hM1⟩ : ∃ M1, M1 = wi Sm1 (c + 135) (upd (ai Sm1 (c + 135)) (73 + 3 * cS R) 0) := ⟨_, rfl⟩
    have r1 : BAD E c k p M1 := by rw [hM1]; exact y3.w
    obtain ⟨M2, hM2⟩ : ∃ M2, M2 = wi M1 (c + 135) (upd (ai M1 (c + 135)) (74 + 3 * cS R) 0) := ⟨_, rfl⟩
    have r2 : BAD E c k p M2 := by rw [hM2]; exact r1.w
    obtain ⟨Sm5, j1, j2, j3⟩ := L52_bad (n := n) r2 (by omega) hS 0
    refine Or.inr ⟨k, p, Sc3, Sm5, ?_, g2.tr x2, x3, ?_, ((y2.tr (by rw [hM1]; exact fm_w)).tr (by rw [hM2]; exact fm_w : FMo c M1 M2)).tr j2, j3⟩
    · rcases x1 with x1 | ⟨x0, -, x1⟩
      · simp only [f_X4_readSuitor, f_X4_readSuitor_J24, g1, bds, x1, if_true]
      · have x1 : f_X4_takeNumber E n Sc2 (c + 2) 0 30 = some (-1, Sc3) := x1
        simp only [f_X4_readSuitor, f_X4_readSuitor_J24, g1, bds, x0, if_neg o10, x1, if_true]
    · simp only [f_X9_readSuitor, hm.2.2.1, obs, hm.2.2.2.1, mg4, m4, ix73, lts, y1, bds, nI_clamp (show 73 + 3 * cS R < 2 ^ 31 by omega), ifn (rinc (show 73 + 3 * cS R < 109 by omega) (show 109 < 2 ^ 31 by omega))]
      rw [← hM1]
      simp only [r1.fm.1, obs, hm.2.2.2.1, bad_told r1 (show 2 ≤ n by omega), bds, nI_1, e74, nI_clamp (show 74 + 3 * cS R < 2 ^ 31 by omega), ifn (rinc (show 74 + 3 * cS R < 109 by omega) (show 109 < 2 ^ 31 by omega)), lts]
      rw [← hM2, bad_needs r2 (by omega), bds, j1]
end LNS
