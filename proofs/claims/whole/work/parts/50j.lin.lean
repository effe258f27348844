/-! Lines of a mountain, both ways: courtings, brides of a suitor -/
section LNC
variable {E : EN} {n c a : Nat} {S S' Sc Sm : WS} {b : Nat → Int32} {L q : Nat} {R R' Rm : Nat → Int32}
theorem J78_bad {k p : Nat} (h : BAD E c k p S) (x : Int32) : f_X9_readCourt_J78 E n S (c + 129) x = some ((), S) := by
  simp only [f_X9_readCourt_J78, h.fm.1, obs, h.fm.2, mg3, bad_num h, bds, gd_f h, if_true]
theorem ln_crt (hs : RC E c a b L q R Sc) (hm : RM E c b L (bhd b L q) R Sm) (ha : a = c + 4 ∨ a = c + 17) (hn : 1500 ≤ n) (hw : WF R) (h0 : 0 < cP R) : OUT E c a b L q R Sc Sm (f_X4_readCourt E n Sc (c + 2) a) (f_X9_readCourt E n Sm (c + 129)) := by
  have hS := hw.lS
  have hB := hw.lB
  have hb := bhd_le (b := b) hs.2.2
  have hk := skp_le (b := b) hs.2.2
  obtain ⟨Sc1, g1, g2, g3⟩ := e_X4_go (n := n) hs ha hn
  have e133 : gi Sc1 133 a = nI (cS R) := g3.2.1.i133.trans hw.s4
  have m4 : ai Sm (c + 135) (Int32.toNatClampNeg 4) = nI (cS R) := (hm.2.2.2.2.1 4 (by decide)).trans hw.s4
  have hb1 := bhd_le (b := b) g3.2.2
  have hk1 := skp_le (b := b) g3.2.2
  rcases num2 (n := n) (lo := 0) (h1 := cS R) g3 hm ha hn (by omega) (by omega) rfl with ⟨v, Sc3, Sm3, v1, v2, t1, t2, x3, u1, u2, y3⟩ | ⟨k, p, Sc2, Sm2, t1, t2, t3, u1, u2, u3⟩
  · have t1 : f_X4_takeNumber E n Sc1 (c + 2) 0 (nI (cS R) - 1) = some (nI v, Sc3) := t1
    have u1 : f_X9_number E n Sm (c + 129) 0 (nI (cS R) - 1) = some (nI v, Sm3) := u1
    obtain ⟨q3, hq3⟩ : ∃ q3, q3 = bhd b L (bhd b L q) := ⟨_, rfl⟩
    rw [← hq3] at x3 y3
    have hb3 := bhd_le (b := b) x3.2.2
    have hk3 := skp_le (b := b) x3.2.2
    have hv3 := vlu_le (b := b) (L := L) (q := q3)
    have e197 : gi Sc3 197 (c + 2) = nI (vlu b L q3) := x3.1.2.2.2.2
    have e132 : gi Sc3 132 a = nI (cB R) := x3.2.1.i132.trans hw.s3
    have m3 : ai Sm3 (c + 135) (Int32.toNatClampNeg 3) = nI (cB R) := (y3.2.2.2.2.1 3 (by decide)).trans hw.s3
    have m75 : ai Sm3 (c + 135) (75 + 3 * v) = R (75 + 3 * v) := y3.2.2.2.2.1 _ (by omega)
    obtain ⟨bt, hbt⟩ : ∃ bt : Prop, bt = ((R (75 + 3 * v) >>> (nI (vlu b L q3) &&& 31)) &&& 1 = 1) := ⟨_, rfl⟩
    have hfor : forI R (nI v) (nI (vlu b L q3)) ↔ vlu b L q3 < cB R ∧ bt := by
      unfold forI
      rw [nI_clamp (show v < 2 ^ 31 by omega), ← hbt, hw.s4, hw.s3]
      constructor
      · rintro ⟨-, z, w⟩
        exact ⟨Classical.byContradiction fun y => z.2 (nI_le (by omega) (by omega)), w⟩
      · rintro ⟨z, w⟩
        exact ⟨⟨nI_pos (by omega), nI_ge v2 (by omega)⟩, ⟨nI_pos (by omega), nI_ge z (by omega)⟩, w⟩
    have cst : f_X4_readCourt E n Sc (c + 2) a = if knd b L q3 = 2 then @ite _ (vlu b L q3 < cB R ∧ bt) (Classical.propDecidable _) (f_X4_readCourt_J49 E n Sc3 (c + 2) a (nI v)) (bd (f_X4_failHere E n Sc3 (c + 2) 2) fun v8 S7 => zc v8 S7) else f_X4_readCourt_J49 E n Sc3 (c + 2) a (nI v) := by
      simp only [f_X4_readCourt, g1, bds, e133, t1, if_neg (nIm1 (show v < 2 ^ 31 by omega)), e197, e_X3_isFor x3.2.1 hw]
      by_cases c1 : knd b L q3 = 2
      · rw [if_pos ((kd2 x3.1).mpr c1), if_pos c1]
        by_cases c2 : vlu b L q3 < cB R ∧ bt
        · rw [ifb1 (hfor.mpr c2), if_pos c2]
        · rw [ifb0 (fun z => c2 (hfor.mp z)), if_neg c2]
      · rw [if_neg (fun z => c1 ((kd2 x3.1).mp z)), if_neg c1]
    have mst : f_X9_readCourt E n Sm (c + 129) = if knd b L q3 = 2 then @ite _ (vlu b L q3 < cB R ∧ ¬ bt) (Classical.propDecidable _) (bd (f_X9_errs E n Sm3 (c + 129) 2) fun _ S9 => f_X9_readCourt_J78 E n S9 (c + 129) (nI v)) (f_X9_readCourt_J78 E n Sm3 (c + 129) (nI v)) else f_X9_readCourt_J78 E n Sm3 (c + 129) (nI v) := by
      simp only [f_X9_readCourt, hm.2.2.1, obs, hm.2.2.2.1, mg4, m4, u1, bds, gd_t y3.2.1, if_neg o10]
      by_cases c1 : knd b L q3 = 2
      · have e523 := y3.1.2.2.2.2 c1
        have inn := in_num (E := E) (n := n) (S := Sm3) (v := vlu b L q3) (lo := 0) (h1 := cB R) (hi := nI (cB R) - 1) hv3 (by omega) (by omega) rfl
        have inn : f_X9_in E n Sm3 (nI (min 99999 (vlu b L q3))).toInt64 (0 : Int64) (nI (cB R) - 1).toInt64 = some (b2i (0 ≤ vlu b L q3 ∧ vlu b L q3 < cB R), Sm3) := inn
        rw [if_pos ((mk2 y3.1).mpr c1), if_pos c1, e523]
        simp only [y3.2.2.1, obs, hm.2.2.2.1, mg3, m3, inn, bds, ixS2, nI_clamp (show 75 + 3 * v < 2 ^ 31 by omega), ifn (rinc (show 75 + 3 * v < 109 by omega) (show 109 < 2 ^ 31 by omega)), m75]
        by_cases c2 : vlu b L q3 < cB R
        · rw [ifb1 ⟨Nat.zero_le _, c2⟩, e523, Nat.min_eq_right (show vlu b L q3 ≤ 99999 by omega)]
          by_cases c3 : bt
          · rw [if_neg (fun z => bit0.mp z (hbt ▸ c3)), if_neg (fun z => z.2 c3)]
          · rw [if_pos (bit0.mpr (fun z => c3 (hbt.symm ▸ z))), if_pos ⟨c2, c3⟩]
        · rw [ifb0 (fun z => c2 z.2), if_neg (fun z => c2 z.1)]
      · rw [if_neg (fun z => c1 ((mk2 y3.1).mp z)), if_neg c1]
    have both2 : OUT E c a b L q R Sc Sm (bd (f_X4_failHere E n Sc3 (c + 2) 2) fun v8 S7 => zc v8 S7) (bd (f_X9_errs E n Sm3 (c + 129) 2) fun _ S9 => f_X9_readCourt_J78 E n S9 (c + 129) (nI v)) := by
      obtain ⟨Sc4, f1, f2, f3⟩ := cf_ok (n := n) 2 x3
      obtain ⟨Sm4, h1, h2, h3⟩ := me (n := n) 2 (by decide) y3
      have f1 : f_X4_failHere E n Sc3 (c + 2) 2 = some (0, Sc4) := f1
      have h1 : f_X9_errs E n Sm3 (c + 129) 2 = some ((), Sm4) := h1
      exact Or.inr ⟨2, _, Sc4, Sm4, by rw [f1, bds, zc0], (g2.tr t2).tr f2, f3, by rw [h1, bds, J78_bad h3], u2.tr h2, h3⟩
    rw [cst, mst]
    by_cases nk : nok b L q3 0 (cB R)
    · rw [if_pos nk.1, if_pos nk.1]
      by_cases c3 : bt
      · rw [if_pos ⟨nk.2.2, c3⟩, if_neg (fun z => z.2 c3)]
        obtain ⟨Sc4, f1, f2, f3⟩ := cn1 (n := n) x3 ha hn (lo := 0) (h1 := cB R) (hi := nI (cB R) - 1) (by omega) rfl nk
        obtain ⟨Sm4, h1, h2, h3⟩ := mn1 (n := n) y3 hn (lo := 0) (h1 := cB R) (hi := nI (cB R) - 1) (by omega) (by omega) rfl nk
        have f1 : f_X4_takeNumber E n Sc3 (c + 2) 0 (nI (cB R) - 1) = some (nI (vlu b L q3), Sc4) := f1
        have h1 : f_X9_number E n Sm3 (c + 129) 0 (nI (cB R) - 1) = some (nI (vlu b L q3), Sm4) := h1
        obtain ⟨k1, k2, f, -, -, z3, z4, -, -, ef⟩ := (hw.sec h0).2.2.2.2.1 v v2
        have p4 : 2 ^ cB R ≤ 2 ^ 4 := Nat.pow_le_pow_right (by decide) hB
        have tb : f.testBit (vlu b L q3) = true := by
          have c3' := c3
          rw [hbt, ef, bitI (by omega) (by have := nk.2.2; omega)] at c3'
          exact c3'
        refine Or.inl ⟨bhd b L q3, upd R (102 + v) (nI (vlu b L q3)), wi Sc4 (a + 9) (upd (ai Sc4 (a + 9)) v (nI (vlu b L q3))), wi Sm4 (c + 135) (upd (ai Sm4 (c + 135)) (102 + v) (nI (vlu b L q3))), ?_, ((g2.tr t2).tr f2).tr (fc_w (by omega)), f3.u (f3.2.1.uC (by omega) hw.bs _) (fun _ => rfl) (fun _ => rfl) (ai_wi_a (by omega)), ?_, (u2.tr h2).tr fm_w, h3.u _ _, hw.uC h0 v2 nk.2.2 ef tb, ?_, pk_un (by omega), by omega⟩
        · simp only [f_X4_readCourt_J49, e132, f1, bds, if_neg (nIm1 (show vlu b L q3 < 2 ^ 31 by omega)), f3.2.1.g143, obs, f3.2.1.n9, nI_clamp (show v < 2 ^ 31 by omega), ifn (rinc (show v < 7 by omega) (show 7 < 2 ^ 31 by omega)), lts]
        · simp only [f_X9_readCourt_J78, y3.2.2.1, obs, hm.2.2.2.1, mg3, m3, h1, bds, gd_t h3.2.1, if_neg o10, h3.2.2.1, ixC, nI_clamp (show 102 + v < 2 ^ 31 by omega), ifn (rinc (show 102 + v < 109 by omega) (show 109 < 2 ^ 31 by omega)), lts]
        · show 0 < cP (upd R (102 + v) (nI (vlu b L q3)))
          rw [show cP (upd R (102 + v) (nI (vlu b L q3))) = cP R from cE (pk_un (by omega))]; exact h0
      · rw [if_neg (fun z => c3 z.2), if_pos ⟨nk.2.2, c3⟩]; exact both2
    · by_cases c1 : knd b L q3 = 2
      · have c2 : ¬ vlu b L q3 < cB R := fun z => nk ⟨c1, Nat.zero_le _, z⟩
        rw [if_pos c1, if_pos c1, if_neg (fun z => c2 z.1), if_neg (fun z => c2 z.1)]
        obtain ⟨Sc4, f1, f2, f3⟩ := cf_ok (n := n) 2 x3
        obtain ⟨Sm4, h1, h2, h3⟩ := mn0 (n := n) y3 hn (lo := 0) (h1 := cB R) (hi := nI (cB R) - 1) (by omega) (by omega) rfl nk
        have f1 : f_X4_failHere E n Sc3 (c + 2) 2 = some (0, Sc4) := f1
        have h1 : f_X9_number E n Sm3 (c + 129) 0 (nI (cB R) - 1) = some (0, Sm4) := h1
        have n2 : nfk b L q3 = 2 := if_pos c1
        rw [n2] at h3
        refine Or.inr ⟨2, _, Sc4, Sm4, by rw [f1, bds, zc0], (g2.tr t2).tr f2, f3, ?_, u2.tr h2, h3⟩
        simp only [f_X9_readCourt_J78, y3.2.2.1, obs, hm.2.2.2.1, mg3, m3, h1, bds, gd_f h3, if_true]
      · rw [if_neg c1, if_neg c1]
        obtain ⟨Sc4, f1, f2, f3⟩ := cn0 (n := n) x3 hn (lo := 0) (h1 := cB R) (hi := nI (cB R) - 1) (by omega) (by omega) rfl nk
        obtain ⟨Sm4, h1, h2, h3⟩ := mn0 (n := n) y3 hn (lo := 0) (h1 := cB R) (hi := nI (cB R) - 1) (by omega) (by omega) rfl nk
        have f1 : f_X4_takeNumber E n Sc3 (c + 2) 0 (nI (cB R) - 1) = some (-1, Sc4) := f1
        have h1 : f_X9_number E n Sm3 (c + 129) 0 (nI (cB R) - 1) = some (0, Sm4) := h1
        refine Or.inr ⟨_, _, Sc4, Sm4, ?_, (g2.tr t2).tr f2, f3, ?_, u2.tr h2, h3⟩
        · simp only [f_X4_readCourt_J49, e132, f1, bds, if_true]
        · simp only [f_X9_readCourt_J78, y3.2.2.1, obs, hm.2.2.2.1, mg3, m3, h1, bds, gd_f h3, if_true]
  · have t1 : f_X4_takeNumber E n Sc1 (c + 2) 0 (nI (cS R) - 1) = some (-1, Sc2) := t1
    have u1 : f_X9_number E n Sm (c + 129) 0 (nI (cS R) - 1) = some (0, Sm2) := u1
    refine Or.inr ⟨k, p, Sc2, Sm2, ?_, g2.tr t2, t3, ?_, u2, u3⟩
    · simp only [f_X4_readCourt, g1, bds, e133, t1, if_true]
    · simp only [f_X9_readCourt, hm.2.2.1, obs, hm.2.2.2.1, mg4, m4, u1, bds, gd_f u3, if_true, J78_bad u3]
/-! the brides whom a suitor is for -/
theorem na_f1 : ∀ m, m < 16 → ∀ v, v < 4 → ¬ m.testBit v = true → na (m ||| 2 ^ v) 5 = na m 5 + 1 := by decide +kernel
theorem na_f4 : ∀ m, m < 16 → na m 5 = 4 → ∀ v, v < 4 → m.testBit v = true := by decide +kernel
theorem na_le4 : ∀ m, m < 16 → na m 5 ≤ 4 := by decide +kernel
theorem brd2 (ha : a = c + 4 ∨ a = c + 17) (hn : 1500 ≤ n) (hw : WF R) (x1 : Int32) : ∀ k q m (Sc Sm : WS), na m 5 + k = 4 → m < 2 ^ cB R → RC E c a b L q R Sc → RM E c b L q Rm Sm → Rm 3 = R 3 → ∀ fc fm, k ≤ fc → k < fm → (∃ m' q' Sc' Sm', 0 < m' ∧ m' < 2 ^ cB R ∧ q ≤ q' ∧ f_X4_takeBrides_J23 E n (f_X4_takeBrides_L4 E n fc) Sc (c + 2) a (nI m) (nI (na m 5)) = some (nI m', Sc') ∧ FC c a Sc Sc' ∧ RC E c a b L q' R Sc' ∧ f_X9_readSuitor_L52 E n fm Sm (c + 129) x1 (nI m) = f_X9_readSuitor_J138 E n Sm' (c + 129) x1 (nI m') ∧ FMo c Sm Sm' ∧ RM E c b L q' Rm Sm') ∨ (∃ k p Sc' Sm' w, f_X4_takeBrides_J23 E n (f_X4_takeBrides_L4 E n fc) Sc (c + 2) a (nI m) (nI (na m 5)) = some (-1, Sc') ∧ FC c a Sc Sc' ∧ CF c k p Sc' ∧ f_X9_readSuitor_L52 E n fm Sm (c + 129) x1 (nI m) = f_X9_readSuitor_J138 E n Sm' (c + 129) x1 w ∧ FMo c Sm Sm' ∧ BAD E c k p Sm') := by
  have hB := hw.lB
  have p4 : 2 ^ cB R ≤ 2 ^ 4 := Nat.pow_le_pow_right (by decide) hB
  intro k
  induction k with
  | zero =>
    intro q m Sc Sm hna hm2 hs hm h3 fc fm hfc hfm
    obtain ⟨fm, rfl⟩ : ∃ t, fm = t + 1 := ⟨fm - 1, by omega⟩
    have hv3 := vlu_le (b := b) (L := L) (q := q)
    have e132 : gi Sc 132 a = nI (cB R) := hs.2.1.i132.trans hw.s3
    have e197 : gi Sc 197 (c + 2) = nI (vlu b L q) := hs.1.2.2.2.2
    have m3 : ai Sm (c + 135) (Int32.toNatClampNeg 3) = nI (cB R) := (hm.2.2.2.2.1 3 (by decide)).trans (h3.trans hw.s3)
    have full := na_f4 m (by omega) (by omega)
    right
    by_cases c1 : knd b L q = 2
    · have e523 := hm.1.2.2.2.2 c1
      have inn : f_X9_in E n Sm (nI (min 99999 (vlu b L q))).toInt64 (0 : Int64) (nI (cB R) - 1).toInt64 = some (b2i (0 ≤ vlu b L q ∧ vlu b L q < cB R), Sm) := in_num (E := E) (n := n) (S := Sm) (v := vlu b L q) (lo := 0) (h1 := cB R) (hi := nI (cB R) - 1) hv3 (by omega) (by omega) rfl
      by_cases c2 : vlu b L q < cB R
      · have bt : (nI m >>> (nI (vlu b L q) &&& 31)) &&& 1 = 1 := (bitI (by omega) (by omega)).mpr (full _ (by omega))
        obtain ⟨Sc4, f1, f2, f3⟩ := cf_ok (n := n) 2 hs
        obtain ⟨Sm4, g1, g2, g3⟩ := me (n := n) 2 (by decide) hm
        have f1 : f_X4_failHere E n Sc (c + 2) 2 = some (0, Sc4) := f1
        have g1 : f_X9_errs E n Sm (c + 129) 2 = some ((), Sm4) := g1
        refine ⟨2, _, Sc4, Sm4, nI m ||| ((1 : Int32) <<< (0 &&& 31)), ?_, f2, f3, ?_, g2, g3⟩
        · simp only [f_X4_takeBrides_J23, if_pos ((kd2 hs.1).mpr c1), e197]
          rw [if_neg (show ¬ (4 : Int32) ≤ nI (vlu b L q) from nI_ge (b := 4) (by omega) (by decide)), if_pos bt, f1, bds]
        · simp only [f_X9_readSuitor_L52, f_X9_readSuitor_J105, gd_t hm.2.1, bds, if_neg o10, if_pos ((mk2 hm.1).mpr c1), e523, hm.2.2.1, obs, hm.2.2.2.1, mg3, m3, inn, ifb1 (show 0 ≤ vlu b L q ∧ vlu b L q < cB R from ⟨Nat.zero_le _, c2⟩)]
          rw [Nat.min_eq_right (show vlu b L q ≤ 99999 by omega), if_pos bt, g1, bds]
          simp only [g3.fm.1, obs, hm.2.2.2.1, mg3, bad_num g3, bds, lts, gd_f g3, if_true]
      · have nk : ¬ nok b L q 0 (cB R) := fun z => c2 z.2.2
        obtain ⟨Sc4, f1, f2, f3⟩ := cn0 (n := n) hs hn (lo := 0) (h1 := cB R) (hi := nI (cB R) - 1) (by omega) (by omega) rfl nk
        obtain ⟨Sm4, g1, g2, g3⟩ := mn0 (n := n) hm hn (lo := 0) (h1 := cB R) (hi := nI (cB R) - 1) (by omega) (by omega) rfl nk
        have f1 : f_X4_takeNumber E n Sc (c + 2) 0 (nI (cB R) - 1) = some (-1, Sc4) := f1
        have g1 : f_X9_number E n Sm (c + 129) 0 (nI (cB R) - 1) = some (0, Sm4) := g1
        refine ⟨_, _, Sc4, Sm4, nI m ||| ((1 : Int32) <<< (0 &&& 31)), ?_, f2, f3, ?_, g2, g3⟩
        · simp only [f_X4_takeBrides_J23, f_X4_takeBrides_J59, if_pos ((kd2 hs.1).mpr c1), e197, e132, f1, bds, if_true]
          by_cases c4 : 4 ≤ vlu b L q
          · rw [if_pos (show (4 : Int32) ≤ nI (vlu b L q) from nI_le (a := 4) c4 (by omega))]
          · rw [if_neg (show ¬ (4 : Int32) ≤ nI (vlu b L q) from nI_ge (b := 4) (by omega) (by decide)), if_neg]
            rw [bitI (by omega) (by omega), Nat.testBit_lt_two_pow (Nat.lt_of_lt_of_le hm2 (Nat.pow_le_pow_right (by decide) (by omega)))]
            decide
        · simp only [f_X9_readSuitor_L52, f_X9_readSuitor_J105, gd_t hm.2.1, bds, if_neg o10, if_pos ((mk2 hm.1).mpr c1), e523, hm.2.2.1, obs, hm.2.2.2.1, mg3, m3, inn, ifb0 (show ¬ (0 ≤ vlu b L q ∧ vlu b L q < cB R) from fun z => c2 z.2), g1, lts, gd_f g3, if_true]
    · have nk : ¬ nok b L q 0 (cB R) := fun z => c1 z.1
      obtain ⟨Sc4, f1, f2, f3⟩ := cn0 (n := n) hs hn (lo := 0) (h1 := cB R) (hi := nI (cB R) - 1) (by omega) (by omega) rfl nk
      obtain ⟨Sm4, g1, g2, g3⟩ := mn0 (n := n) hm hn (lo := 0) (h1 := cB R) (hi := nI (cB R) - 1) (by omega) (by omega) rfl nk
      have f1 : f_X4_takeNumber E n Sc (c + 2) 0 (nI (cB R) - 1) = some (-1, Sc4) := f1
      have g1 : f_X9_number E n Sm (c + 129) 0 (nI (cB R) - 1) = some (0, Sm4) := g1
      refine ⟨_, _, Sc4, Sm4, nI m ||| ((1 : Int32) <<< (0 &&& 31)), ?_, f2, f3, ?_, g2, g3⟩
      · simp only [f_X4_takeBrides_J23, f_X4_takeBrides_J59, if_neg (fun z => c1 ((kd2 hs.1).mp z)), e132, f1, bds, if_true]
      · simp only [f_X9_readSuitor_L52, f_X9_readSuitor_J105, gd_t hm.2.1, bds, if_neg o10, if_neg (fun z => c1 ((mk2 hm.1).mp z)), hm.2.2.1, obs, hm.2.2.2.1, mg3, m3, g1, lts, gd_f g3, if_true]
  | succ k ih =>
    intro q m Sc Sm hna hm2 hs hm h3 fc fm hfc hfm
    obtain ⟨fm, rfl⟩ : ∃ t, fm = t + 1 := ⟨fm - 1, by omega⟩
    obtain ⟨fc, rfl⟩ : ∃ t, fc = t + 1 := ⟨fc - 1, by omega⟩
    have hv3 := vlu_le (b := b) (L := L) (q := q)
    have hb3 := bhd_le (b := b) hs.2.2
    have hk3 := skp_le (b := b) hs.2.2
    have e132 : gi Sc 132 a = nI (cB R) := hs.2.1.i132.trans hw.s3
    have e197 : gi Sc 197 (c + 2) = nI (vlu b L q) := hs.1.2.2.2.2
    have m3 : ai Sm (c + 135) (Int32.toNatClampNeg 3) = nI (cB R) := (hm.2.2.2.2.1 3 (by decide)).trans (h3.trans hw.s3)
    by_cases c1 : knd b L q = 2
    · have e523 := hm.1.2.2.2.2 c1
      have inn : f_X9_in E n Sm (nI (min 99999 (vlu b L q))).toInt64 (0 : Int64) (nI (cB R) - 1).toInt64 = some (b2i (0 ≤ vlu b L q ∧ vlu b L q < cB R), Sm) := in_num (E := E) (n := n) (S := Sm) (v := vlu b L q) (lo := 0) (h1 := cB R) (hi := nI (cB R) - 1) hv3 (by omega) (by omega) rfl
      by_cases c2 : vlu b L q < cB R
      · by_cases tb : m.testBit (vlu b L q) = true
        · right
          have bt : (nI m >>> (nI (vlu b L q) &&& 31)) &&& 1 = 1 := (bitI (by omega) (by omega)).mpr tb
          obtain ⟨Sc4, f1, f2, f3⟩ := cf_ok (n := n) 2 hs
          obtain ⟨Sm4, g1, g2, g3⟩ := me (n := n) 2 (by decide) hm
          have f1 : f_X4_failHere E n Sc (c + 2) 2 = some (0, Sc4) := f1
          have g1 : f_X9_errs E n Sm (c + 129) 2 = some ((), Sm4) := g1
          refine ⟨2, _, Sc4, Sm4, nI m ||| ((1 : Int32) <<< (0 &&& 31)), ?_, f2, f3, ?_, g2, g3⟩
          · simp only [f_X4_takeBrides_J23, if_pos ((kd2 hs.1).mpr c1), e197]
            rw [if_neg (show ¬ (4 : Int32) ≤ nI (vlu b L q) from nI_ge (b := 4) (by omega) (by decide)), if_pos bt, f1, bds]
          · simp only [f_X9_readSuitor_L52, f_X9_readSuitor_J105, gd_t hm.2.1, bds, if_neg o10, if_pos ((mk2 hm.1).mpr c1), e523, hm.2.2.1, obs, hm.2.2.2.1, mg3, m3, inn, ifb1 (show 0 ≤ vlu b L q ∧ vlu b L q < cB R from ⟨Nat.zero_le _, c2⟩)]
            rw [Nat.min_eq_right (show vlu b L q ≤ 99999 by omega), if_pos bt, g1, bds]
            simp only [g3.fm.1, obs, hm.2.2.2.1, mg3, bad_num g3, bds, lts, gd_f g3, if_true]
        · have bt : ¬ (nI m >>> (nI (vlu b L q) &&& 31)) &&& 1 = 1 := fun z => tb ((bitI (by omega) (by omega)).mp z)
          have nk : nok b L q 0 (cB R) := ⟨c1, Nat.zero_le _, c2⟩
          obtain ⟨Sc4, f1, f2, f3⟩ := cn1 (n := n) hs ha hn (lo := 0) (h1 := cB R) (hi := nI (cB R) - 1) (by omega) rfl nk
          obtain ⟨Sm4, g1, g2, g3⟩ := mn1 (n := n) hm hn (lo := 0) (h1 := cB R) (hi := nI (cB R) - 1) (by omega) (by omega) rfl nk
          have f1 : f_X4_takeNumber E n Sc (c + 2) 0 (nI (cB R) - 1) = some (nI (vlu b L q), Sc4) := f1
          have g1 : f_X9_number E n Sm (c + 129) 0 (nI (cB R) - 1) = some (nI (vlu b L q), Sm4) := g1
          have nf := na_f1 m (by omega) (vlu b L q) (by omega) tb
          obtain ⟨m1, hm1⟩ : ∃ m1, m1 = m ||| 2 ^ (vlu b L q) := ⟨_, rfl⟩
          have m1l : m1 < 2 ^ cB R := by rw [hm1]; exact Nat.or_lt_two_pow hm2 (Nat.pow_lt_pow_right (by decide) c2)
          have m1p : 0 < m1 := by
            rw [hm1]
            have h1 : (2 ^ (vlu b L q)) ≤ m ||| 2 ^ (vlu b L q) := Nat.right_le_or
            have := Nat.two_pow_pos (vlu b L q)
            omega
          have em : nI m ||| ((1 : Int32) <<< (nI (vlu b L q) &&& 31)) = nI m1 := by rw [shl1 _ (by omega), fa_or, hm1]
          rw [← hm1] at nf
          have cst : f_X4_takeBrides_J23 E n (f_X4_takeBrides_L4 E n (fc + 1)) Sc (c + 2) a (nI m) (nI (na m 5)) = if knd b L (bhd b L q) = 2 then f_X4_takeBrides_J23 E n (f_X4_takeBrides_L4 E n fc) Sc4 (c + 2) a (nI m1) (nI (na m1 5)) else some (nI m1, Sc4) := by
            simp only [f_X4_takeBrides_J23, f_X4_takeBrides_J59, f_X4_takeBrides_L4, if_pos ((kd2 hs.1).mpr c1), e197, e132]
            rw [if_neg (show ¬ (4 : Int32) ≤ nI (vlu b L q) from nI_ge (b := 4) (by omega) (by decide)), if_neg bt, f1, bds, if_neg (nIm1 (show vlu b L q < 2 ^ 31 by omega)), em, lts, nI_1, lts, ← nf]
            have l4 := na_le4 m1 (by omega)
            rw [if_neg (show ¬ (4 : Int32) < nI (na m1 5) from (nI_nlt l4 (by decide) : ¬ nI 4 < nI (na m1 5))), if_neg (fun z => by have := (nI_le0 (by omega)).mp z; omega)]
            by_cases c5 : knd b L (bhd b L q) = 2
            · rw [if_pos ((kd2 f3.1).mpr c5), if_pos c5]
            · rw [if_neg (fun z => c5 ((kd2 f3.1).mp z)), if_neg c5]
          have mst : f_X9_readSuitor_L52 E n (fm + 1) Sm (c + 129) x1 (nI m) = if knd b L (bhd b L q) = 2 then f_X9_readSuitor_L52 E n fm Sm4 (c + 129) x1 (nI m1) else f_X9_readSuitor_J138 E n Sm4 (c + 129) x1 (nI m1) := by
            simp only [f_X9_readSuitor_L52, f_X9_readSuitor_J105, gd_t hm.2.1, bds, if_neg o10, if_pos ((mk2 hm.1).mpr c1), e523, hm.2.2.1, obs, hm.2.2.2.1, mg3, m3, inn, ifb1 (show 0 ≤ vlu b L q ∧ vlu b L q < cB R from ⟨Nat.zero_le _, c2⟩)]
            rw [Nat.min_eq_right (show vlu b L q ≤ 99999 by omega), if_neg bt]
            simp only [g1, bds, lts, em, gd_t g3.2.1, if_neg o10]
            by_cases c5 : knd b L (bhd b L q) = 2
            · rw [if_pos ((mk2 g3.1).mpr c5), if_pos c5]
            · rw [if_neg (fun z => c5 ((mk2 g3.1).mp z)), if_neg c5]
          rw [cst, mst]
          by_cases c5 : knd b L (bhd b L q) = 2
          · rw [if_pos c5, if_pos c5]
            rcases ih (bhd b L q) m1 Sc4 Sm4 (by omega) m1l f3 g3 h3 fc fm (by omega) (by omega) with ⟨m', q', Sc5, Sm5, r1, r2, r3, r4, r5, r6, r7, r8, r9⟩ | ⟨k', p', Sc5, Sm5, w, r1, r2, r3, r4, r5, r6⟩
            · exact Or.inl ⟨m', q', Sc5, Sm5, r1, r2, by omega, r4, f2.tr r5, r6, r7, g2.tr r8, r9⟩
            · exact Or.inr ⟨k', p', Sc5, Sm5, w, r1, f2.tr r2, r3, r4, g2.tr r5, r6⟩
          · rw [if_neg c5, if_neg c5]
            exact Or.inl ⟨m1, _, Sc4, Sm4, m1p, m1l, by omega, rfl, f2, f3, rfl, g2, g3⟩
      · right
        have nk : ¬ nok b L q 0 (cB R) := fun z => c2 z.2.2
        obtain ⟨Sc4, f1, f2, f3⟩ := cn0 (n := n) hs hn (lo := 0) (h1 := cB R) (hi := nI (cB R) - 1) (by omega) (by omega) rfl nk
        obtain ⟨Sm4, g1, g2, g3⟩ := mn0 (n := n) hm hn (lo := 0) (h1 := cB R) (hi := nI (cB R) - 1) (by omega) (by omega) rfl nk
        have f1 : f_X4_takeNumber E n Sc (c + 2) 0 (nI (cB R) - 1) = some (-1, Sc4) := f1
        have g1 : f_X9_number E n Sm (c + 129) 0 (nI (cB R) - 1) = some (0, Sm4) := g1
        refine ⟨_, _, Sc4, Sm4, nI m ||| ((1 : Int32) <<< (0 &&& 31)), ?_, f2, f3, ?_, g2, g3⟩
        · simp only [f_X4_takeBrides_J23, f_X4_takeBrides_J59, if_pos ((kd2 hs.1).mpr c1), e197, e132, f1, bds, if_true]
          by_cases c4 : 4 ≤ vlu b L q
          · rw [if_pos (show (4 : Int32) ≤ nI (vlu b L q) from nI_le (a := 4) c4 (by omega))]
          · rw [if_neg (show ¬ (4 : Int32) ≤ nI (vlu b L q) from nI_ge (b := 4) (by omega) (by decide)), if_neg]
            rw [bitI (by omega) (by omega), Nat.testBit_lt_two_pow (Nat.lt_of_lt_of_le hm2 (Nat.pow_le_pow_right (by decide) (by omega)))]
            decide
        · simp only [f_X9_readSuitor_L52, f_X9_readSuitor_J105, gd_t hm.2.1, bds, if_neg o10, if_pos ((mk2 hm.1).mpr c1), e523, hm.2.2.1, obs, hm.2.2.2.1, mg3, m3, inn, ifb0 (show ¬ (0 ≤ vlu b L q ∧ vlu b L q < cB R) from fun z => c2 z.2), g1, lts, gd_f g3, if_true]
    · right
      have nk : ¬ nok b L q 0 (cB R) := fun z => c1 z.1
      obtain ⟨Sc4, f1, f2, f3⟩ := cn0 (n := n) hs hn (lo := 0) (h1 := cB R) (hi := nI (cB R) - 1) (by omega) (by omega) rfl nk
      obtain ⟨Sm4, g1, g2, g3⟩ := mn0 (n := n) hm hn (lo := 0) (h1 := cB R) (hi := nI (cB R) - 1) (by omega) (by omega) rfl nk
      have f1 : f_X4_takeNumber E n Sc (c + 2) 0 (nI (cB R) - 1) = some (-1, Sc4) := f1
      have g1 : f_X9_number E n Sm (c + 129) 0 (nI (cB R) - 1) = some (0, Sm4) := g1
      refine ⟨_, _, Sc4, Sm4, nI m ||| ((1 : Int32) <<< (0 &&& 31)), ?_, f2, f3, ?_, g2, g3⟩
      · simp only [f_X4_takeBrides_J23, f_X4_takeBrides_J59, if_neg (fun z => c1 ((kd2 hs.1).mp z)), e132, f1, bds, if_true]
      · simp only [f_X9_readSuitor_L52, f_X9_readSuitor_J105, gd_t hm.2.1, bds, if_neg o10, if_neg (fun z => c1 ((mk2 hm.1).mp z)), hm.2.2.1, obs, hm.2.2.2.1, mg3, m3, g1, lts, gd_f g3, if_true]
end LNC
