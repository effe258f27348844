/-! The first line; a line's end; all lines -/
def mTL (E : EN) (n : Nat) (S : WS) (h0 : Nat) : Option (Unit × WS) :=
  bd (f_X9_good E n S h0) fun v5 S4 =>
  if v5 = 0 then
    f_X9_readLine_J73 E n S4 h0
  else
    if (gi S4 522 h0) = (3 : Int32) then
      f_X9_readLine_J73 E n S4 h0
    else
      bd (f_X9_errs E n S4 h0 (1 : Int32)) fun v7 S6 =>
      f_X9_readLine_J73 E n S6 h0
section LNF
variable {E : EN} {n c a : Nat} {S S' Sc Sm Sm1 : WS} {b : Nat → Int32} {L q : Nat} {R R' Rm : Nat → Int32}
theorem J73_bad {k p : Nat} (h : BAD E c k p S) : ∃ S', f_X9_readLine_J73 E n S (c + 129) = some ((), S') ∧ FMo c S S' ∧ BAD E c k p S' := by
  refine ⟨wi S (c + 135) (upd (ai S (c + 135)) 6 (ai S (c + 135) 6 + 1)), ?_, fm_w, h.w⟩
  simp only [f_X9_readLine_J73, gd_f h, bds, if_true, h.fm.1, obs, h.fm.2, mg6, t6n, lts]
  rw [if_neg (by decide), if_neg (by decide)]
theorem TL_bad {k p : Nat} (h : BAD E c k p S) : ∃ S', mTL E n S (c + 129) = some ((), S') ∧ FMo c S S' ∧ BAD E c k p S' := by
  obtain ⟨S', r1, r2, r3⟩ := J73_bad (n := n) h
  exact ⟨S', by simp only [mTL, gd_f h, bds, if_true, r1], r2, r3⟩
theorem kd3 (h : CR E c b L q S) : (gi S 195 (c + 2) = 3 ↔ knd b L q = 3) := by
  have hk := knd_le (b := b) (L := L) (q := q)
  rw [h.2.2.1]
  exact nI_eq (b := 3) (by omega) (by decide)
theorem mk3 (h : MR E c b L q S) : (gi S 522 (c + 129) = 3 ↔ knd b L q = 3) := by
  have hk := knd_le (b := b) (L := L) (q := q)
  rw [h.2.2.1]
  exact nI_eq (b := 3) (by omega) (by decide)
theorem ln_semi (hs : RC E c a b L q R Sc) (hm : RM E c b L q R Sm) (ha : a = c + 4 ∨ a = c + 17) (hn : 1500 ≤ n) {l : Nat} (hl : R 6 = nI l) (K : WS → Option (Int32 × WS)) : (∃ Sc' Sm', (bd (f_X4_takeSemicolon E n Sc (c + 2)) fun v4 S3 => if v4 = 0 then some ((0 : Int32), S3) else K (si S3 128 a (gi S3 128 a + 1))) = K Sc' ∧ FC c a Sc Sc' ∧ RC E c a b L (bhd b L q) (upd R 6 (nI (l + 1))) Sc' ∧ mTL E n Sm (c + 129) = some ((), Sm') ∧ FMo c Sm Sm' ∧ RM E c b L (bhd b L q) (upd R 6 (nI (l + 1))) Sm' ∧ q < bhd b L q) ∨ (∃ k p Sc' Sm', (bd (f_X4_takeSemicolon E n Sc (c + 2)) fun v4 S3 => if v4 = 0 then some ((0 : Int32), S3) else K (si S3 128 a (gi S3 128 a + 1))) = some (0, Sc') ∧ FC c a Sc Sc' ∧ CF c k p Sc' ∧ mTL E n Sm (c + 129) = some ((), Sm') ∧ FMo c Sm Sm' ∧ BAD E c k p Sm') := by
  have hb := bhd_le (b := b) hs.2.2
  have hk := skp_le (b := b) hs.2.2
  by_cases c1 : knd b L q = 3
  · obtain ⟨Sc1, g1, g2, g3⟩ := e_X4_go (n := n) hs ha hn
    obtain ⟨Sm2, t1, t2, t3⟩ := e_X9_go (n := n) hm hn
    have e128 : gi Sc1 128 a = nI l := g3.2.1.i128.trans hl
    have m6 : ai Sm2 (c + 135) 6 = nI l := (t3.2.2.2.2.1 6 (by decide)).trans hl
    refine Or.inl ⟨si Sc1 128 a (nI (l + 1)), wi Sm2 (c + 135) (upd (ai Sm2 (c + 135)) 6 (nI (l + 1))), ?_, g2.tr (fc_a (by omega)), g3.u (g3.2.1.u6 _) (fun _ => rfl) (fun f => gi_si_a (by omega)) rfl, ?_, t2.tr fm_w, t3.u _ _, by have := hb.2.2 (by omega); omega⟩
    · simp only [f_X4_takeSemicolon, if_pos ((kd3 hs.1).mpr c1), g1, bds, if_neg o10, e128, nI_1]
    · simp only [mTL, gd_t hm.2.1, bds, if_neg o10, if_pos ((mk3 hm.1).mpr c1), f_X9_readLine_J73, t1, t3.2.2.1, obs, hm.2.2.2.1, mg6, t6n, m6, nI_1, lts]
      rw [if_neg (by decide), if_neg (by decide)]
  · obtain ⟨Sc4, f1, f2, f3⟩ := cf_ok (n := n) 1 hs
    obtain ⟨Sm4, h1, h2, h3⟩ := me (n := n) 1 (by decide) hm
    obtain ⟨Sm5, j1, j2, j3⟩ := J73_bad (n := n) h3
    have f1 : f_X4_failHere E n Sc (c + 2) 1 = some (0, Sc4) := f1
    have h1 : f_X9_errs E n Sm (c + 129) 1 = some ((), Sm4) := h1
    refine Or.inr ⟨1, _, Sc4, Sm5, ?_, f2, f3, ?_, h2.tr j2, j3⟩
    · simp only [f_X4_takeSemicolon, if_neg (fun z => c1 ((kd3 hs.1).mp z)), f1, bds, zc0, if_true]
    · simp only [mTL, gd_t hm.2.1, bds, if_neg o10, if_neg (fun z => c1 ((mk3 hm.1).mp z)), h1, j1]
/-- a line, its end aside: the model's goes on to its end -/
def OUL (E : EN) (n c a : Nat) (b : Nat → Int32) (L q : Nat) (R : Nat → Int32) (Sc Sm : WS) : Prop := (∃ q' R' Sc' Sm', f_X4_readLine E n Sc (c + 2) a = some (1, Sc') ∧ FC c a Sc Sc' ∧ RC E c a b L q' R' Sc' ∧ f_X9_readLine E n Sm (c + 129) = mTL E n Sm' (c + 129) ∧ FMo c Sm Sm' ∧ RM E c b L q' R' Sm' ∧ WF R' ∧ 0 < cP R' ∧ R' 6 = R 6 ∧ q ≤ q') ∨ (∃ k p Sc' Sm', f_X4_readLine E n Sc (c + 2) a = some (0, Sc') ∧ FC c a Sc Sc' ∧ CF c k p Sc' ∧ f_X9_readLine E n Sm (c + 129) = mTL E n Sm' (c + 129) ∧ FMo c Sm Sm' ∧ BAD E c k p Sm')
theorem ln_one (hs : RC E c a b L q R Sc) (hm : RM E c b L q R Sm) (ha : a = c + 4 ∨ a = c + 17) (hn : 1500 ≤ n) (hw : WF R) (h0 : 0 < cP R) (h6 : R 6 ≠ 0) : OUL E n c a b L q R Sc Sm := by
  have m6 : ¬ ai Sm (c + 135) (Int32.toNatClampNeg 6) = 0 := by rw [show ai Sm (c + 135) (Int32.toNatClampNeg 6) = R 6 from hm.2.2.2.2.1 6 (by decide)]; exact h6
  have mst : f_X9_readLine E n Sm (c + 129) = bd (f_X9_readNext E n Sm (c + 129)) fun _ S => mTL E n S (c + 129) := by
    simp only [f_X9_readLine, hm.2.2.1, obs, hm.2.2.2.1, mg6, if_neg m6, mTL]
  rcases ln_all (n := n) hs hm ha hn hw h0 h6 with ⟨q', R', Sc', Sm', r1, r2, r3, r4, r⟩ | ⟨k, p, Sc', Sm', r1, r2, r3, r4, r⟩
  · exact Or.inl ⟨q', R', Sc', Sm', r1, r2, r3, by rw [mst, r4, bds], r⟩
  · exact Or.inr ⟨k, p, Sc', Sm', r1, r2, r3, by rw [mst, r4, bds], r⟩
theorem ln_first (hs : RC E c a b L q R Sc) (hm : RM E c b L q R Sm) (ha : a = c + 4 ∨ a = c + 17) (hn : 1500 ≤ n) (hw : WF R) (h0 : cP R = 0) (h6 : R 6 = 0) (hc : ∀ s, s < 7 → R (102 + s) = -1) : OUL E n c a b L q R Sc Sm := by
  have hb := bhd_le (b := b) hs.2.2
  have hk := skp_le (b := b) hs.2.2
  have e128 : gi Sc 128 a = 0 := by rw [hs.2.1.i128]; exact h6
  have m6 : ai Sm (c + 135) (Int32.toNatClampNeg 6) = 0 := by rw [show ai Sm (c + 135) (Int32.toNatClampNeg 6) = R 6 from hm.2.2.2.2.1 6 (by decide)]; exact h6
  -- the model, from the word on
  have tail : ∀ Sm1, gr Sm1 526 (c + 129) = some (c + 135) → f_X9_needs E n Sm (c + 129) 0 = some ((), Sm1) → ∀ v Sm2, f_X9_told E n Sm1 (c + 129) 1 2 8 = some (v, Sm2) → gr Sm2 526 (c + 129) = some (c + 135) → ∀ w Sm3, f_X9_told E n (wi Sm2 (c + 135) (upd (ai Sm2 (c + 135)) 0 v)) (c + 129) 2 1 30 = some (w, Sm3) → f_X9_readLine E n Sm (c + 129) = mTL E n (wi Sm3 (c + 135) (upd (ai Sm3 (c + 135)) 1 w)) (c + 129) := by
    intro Sm1 gs1 hn1 v Sm2 ht1 gs2 w Sm3 ht2
    obtain ⟨M2, hM2⟩ : ∃ M2, M2 = wi Sm2 (c + 135) (upd (ai Sm2 (c + 135)) 0 v) := ⟨_, rfl⟩
    have gs3 : gr M2 526 (c + 129) = some (c + 135) := by rw [hM2]; exact gs2
    rw [← hM2] at ht2
    simp only [f_X9_readLine, hm.2.2.1, obs, hm.2.2.2.1, mg6, if_pos m6, hn1, bds, gs1, ht1, mg0, t0n, lts]
    rw [if_neg (by decide), ← hM2]
    simp only [gs3, obs, ht2, bds, hm.2.2.2.1, mg1, t1n, lts]
    rw [if_neg (by decide)]
    rfl
  rcases wrd2 (n := n) (w := 0) hs hm ha hn (by decide) with ⟨Sc1, Sm1, r1, r2, r3, s1, s2, s3⟩ | ⟨k, p, Sc1, Sm1, r1, r2, r3, s1, s2, s3⟩
  · have k0 : tkw b L q 0 := by
      apply Classical.byContradiction
      intro z
      obtain ⟨Z, z1, -, -⟩ := cwf (n := n) hs hn (w := 0) (by decide) z
      rw [r1] at z1
      have := congrArg (fun o => o.map Prod.fst) z1
      simp at this
    have iw : f_X4_isWord E n Sc (c + 2) 0 = some (1, Sc) := by rw [e_X4_isWord hs.1 hs.2.2 hn (by decide), b2i_t k0]
    obtain ⟨Sc2, g1, g2, g3⟩ := e_X4_go (n := n) hs ha hn
    have cst : f_X4_readLine E n Sc (c + 2) a = bd (f_X4_readMountain E n Sc (c + 2) a) fun v S => zc v S := by
      unfold f_X4_readLine
      rw [iw, bds, if_neg o10, if_pos e128]
    rcases tld2 (n := n) (w := 1) (lo := 2) (h1 := 9) (hi := 8) g3 s3 ha hn (by decide) (by omega) (by omega) (by decide) with ⟨v, q1, Sc3, Sc4, Sm2, v1, v2, v3, x0, xr, x1, x2, x3, y1, y2, y3⟩ | ⟨k, p, Sc3, Sc4, Sm2, x1, x2, x3, y1, y2, y3⟩
    · have x1 : f_X4_takeNumber E n Sc3 (c + 2) 2 8 = some (nI v, Sc4) := x1
      have y1 : f_X9_told E n Sm1 (c + 129) 1 2 8 = some (nI v, Sm2) := y1
      have r1' : RM E c b L q1 (upd R 0 (nI v)) (wi Sm2 (c + 135) (upd (ai Sm2 (c + 135)) 0 (nI v))) := y3.u _ _
      rcases tld2 (n := n) (w := 2) (lo := 1) (h1 := 31) (hi := 30) x3 r1' ha hn (by decide) (by omega) (by omega) (by decide) with ⟨w, q2, Sc5, Sc6, Sm3, w1, w2, w3, X0, Xr, X1, X2, X3, Y1, Y2, Y3⟩ | ⟨k, p, Sc5, Sc6, Sm3, X1, X2, X3, Y1, Y2, Y3⟩
      · have X1 : f_X4_takeNumber E n Sc5 (c + 2) 1 30 = some (nI w, Sc6) := X1
        refine Or.inl ⟨q2, upd (upd R 0 (nI v)) 1 (nI w), si (si Sc6 129 a (nI v)) 130 a (nI w), wi Sm3 (c + 135) (upd (ai Sm3 (c + 135)) 1 (nI w)), ?_, ((g2.tr x2).tr X2).tr ((fc_a (by omega)).tr (fc_a (by omega))), X3.u (X3.2.1.u01 _ _) (fun _ => rfl) (fun f => (gi_si_a (by omega)).trans (gi_si_a (by omega))) rfl, tail Sm1 s3.2.2.1 s1 _ Sm2 y1 y3.2.2.1 _ Sm3 Y1, ((s2.tr y2).tr fm_w).tr (Y2.tr fm_w), Y3.u _ _, hw.u01 h0 ⟨v1, by omega⟩ ⟨w1, by omega⟩ hc, ?_, (pk_un (by decide)).trans (pk_un (by decide)), by omega⟩
        · rw [cst]
          simp only [f_X4_readMountain, f_X4_readMountain_J24, g1, bds, x0, if_neg o10, x1, if_neg (nIm1 (show v < 2 ^ 31 by omega)), X0, X1, if_neg (nIm1 (show w < 2 ^ 31 by omega)), lts, zc1]
        · show 0 < cP (upd (upd R 0 (nI v)) 1 (nI w))
          have : cP (upd (upd R 0 (nI v)) 1 (nI w)) = v := by
            show (upd (upd R 0 (nI v)) 1 (nI w) 0).toNatClampNeg = v
            rw [pk_un (by decide), pk_us, nI_clamp (by omega)]
          rw [this]; omega
      · refine Or.inr ⟨k, p, Sc6, wi Sm3 (c + 135) (upd (ai Sm3 (c + 135)) 1 0), ?_, (g2.tr x2).tr X2, X3, tail Sm1 s3.2.2.1 s1 _ Sm2 y1 y3.2.2.1 _ Sm3 Y1, ((s2.tr y2).tr fm_w).tr (Y2.tr fm_w), Y3.w⟩
        rw [cst]
        rcases X1 with X1 | ⟨X0, -, X1⟩
        · simp only [f_X4_readMountain, f_X4_readMountain_J24, g1, bds, x0, if_neg o10, x1, if_neg (nIm1 (show v < 2 ^ 31 by omega)), X1, if_true, zc0]
        · have X1 : f_X4_takeNumber E n Sc5 (c + 2) 1 30 = some (-1, Sc6) := X1
          simp only [f_X4_readMountain, f_X4_readMountain_J24, g1, bds, x0, if_neg o10, x1, if_neg (nIm1 (show v < 2 ^ 31 by omega)), X0, X1, if_true, zc0]
    · have y1 : f_X9_told E n Sm1 (c + 129) 1 2 8 = some (0, Sm2) := y1
      have b2 : BAD E c k p (wi Sm2 (c + 135) (upd (ai Sm2 (c + 135)) 0 0)) := y3.w
      refine Or.inr ⟨k, p, Sc4, _, ?_, g2.tr x2, x3, tail Sm1 s3.2.2.1 s1 _ Sm2 y1 y3.fm.1 _ _ (bad_told b2 (by omega) 2 1 30), ((s2.tr y2).tr fm_w).tr fm_w, b2.w⟩
      rw [cst]
      rcases x1 with x1 | ⟨x0, -, x1⟩
      · simp only [f_X4_readMountain, f_X4_readMountain_J24, g1, bds, x1, if_true, zc0]
      · have x1 : f_X4_takeNumber E n Sc3 (c + 2) 2 8 = some (-1, Sc4) := x1
        simp only [f_X4_readMountain, f_X4_readMountain_J24, g1, bds, x0, if_neg o10, x1, if_true, zc0]
  · have k0 : ¬ tkw b L q 0 := by
      intro z
      obtain ⟨Z, z1, -, -⟩ := cw (n := n) hs ha hn (w := 0) (by decide) z
      rw [r1] at z1
      have := congrArg (fun o => o.map Prod.fst) z1
      simp at this
    have iw : f_X4_isWord E n Sc (c + 2) 0 = some (0, Sc) := by rw [e_X4_isWord hs.1 hs.2.2 hn (by decide), b2i_f k0]
    obtain ⟨Sc4, f1, f2, f3⟩ := cf_ok (n := n) 1 hs
    obtain ⟨Sm4, h1, h2, h3⟩ := mwf (n := n) hm hn (w := 0) (by decide) k0
    have f1 : f_X4_failHere E n Sc (c + 2) 1 = some (0, Sc4) := f1
    have b2 : BAD E c 1 (skp b L q) (wi Sm4 (c + 135) (upd (ai Sm4 (c + 135)) 0 0)) := h3.w
    refine Or.inr ⟨1, _, Sc4, _, ?_, f2, f3, tail Sm4 h3.fm.1 h1 _ Sm4 (bad_told h3 (by omega) 1 2 8) h3.fm.1 _ _ (bad_told b2 (by omega) 2 1 30), (h2.tr fm_w).tr fm_w, b2.w⟩
    unfold f_X4_readLine
    rw [iw, bds, if_pos (rfl : (0 : Int32) = 0), if_pos e128, f1, bds, zc0]
end LNF
