/-! Lines of a mountain, both ways: heights, rain, walkers, brides -/
theorem bd_id {ρ : Type} {f : Option (ρ × WS)} : bd f (fun v S => some (v, S)) = f := by
  cases f with
  | none => rfl
  | some p => rfl
section LIN
variable {E : EN} {n c a : Nat} {S S' Sc Sm : WS} {b : Nat → Int32} {L q : Nat} {R R' Rm : Nat → Int32}
/-- both go on alike, or both fail alike -/
def OUT (E : EN) (c a : Nat) (b : Nat → Int32) (L q : Nat) (R : Nat → Int32) (Sc Sm : WS) (fc : Option (Int32 × WS)) (fm : Option (Unit × WS)) : Prop := (∃ q' R' Sc' Sm', fc = some (1, Sc') ∧ FC c a Sc Sc' ∧ RC E c a b L q' R' Sc' ∧ fm = some ((), Sm') ∧ FMo c Sm Sm' ∧ RM E c b L q' R' Sm' ∧ WF R' ∧ 0 < cP R' ∧ R' 6 = R 6 ∧ q ≤ q') ∨ (∃ k p Sc' Sm', fc = some (0, Sc') ∧ FC c a Sc Sc' ∧ CF c k p Sc' ∧ fm = some ((), Sm') ∧ FMo c Sm Sm' ∧ BAD E c k p Sm')
theorem RC.u (h : RC E c a b L q R S) (r : RMt E S' a R') (g : ∀ f, gr S' f (c + 2) = gr S f (c + 2)) (gf : ∀ f, gi S' f (c + 2) = gi S f (c + 2)) (e : ai S' (c + 1) = ai S (c + 1)) : RC E c a b L q R' S' := by
  obtain ⟨⟨⟨x1, x2, x3, x4, x5⟩, x6, x7, x8, x9⟩, -, x10⟩ := h
  exact ⟨⟨⟨(g _).trans x1, x2, e.trans x3, (gf _).trans x4, x5.1, (gf _).trans x5.2.1, (gf _).trans x5.2.2⟩, (gf _).trans x6, (gf _).trans x7, (gf _).trans x8, (gf _).trans x9⟩, r, x10⟩
theorem RM.w (h : RM E c b L q R S) {g : Nat → Int32} (hg : ∀ i, i < 109 → g i = R' i) : RM E c b L q R' (wi S (c + 135) g) := by
  obtain ⟨⟨⟨x1, x2, x3, x4, x5⟩, x6⟩, x7, x8, x9, x10, x11⟩ := h
  exact ⟨⟨⟨x1, x2, fun i hi => by rw [ai_wi_a (by omega)]; exact x3 i hi, x4, x5⟩, x6⟩, x7, x8, x9, fun i hi => by rw [ai_wi]; exact hg i hi, x11⟩
theorem RM.u (h : RM E c b L q R S) (k : Nat) (v : Int32) : RM E c b L q (upd R k v) (wi S (c + 135) (upd (ai S (c + 135)) k v)) := h.w (fun i hi => by
  by_cases e : i = k
  · subst e; rw [pk_us, pk_us]
  · rw [pk_un e, pk_un e]; exact h.2.2.2.2.1 i hi)
theorem num2 (hs : RC E c a b L q R Sc) (hm : RM E c b L q Rm Sm) (ha : a = c + 4 ∨ a = c + 17) (hn : 1500 ≤ n) {lo h1 : Nat} (hlo : lo ≤ 1000) (hh1 : h1 ≤ 1000) {hi : Int32} (ehi : hi = nI h1 - 1) : (∃ v Sc' Sm', lo ≤ v ∧ v < h1 ∧ f_X4_takeNumber E n Sc (c + 2) (nI lo) hi = some (nI v, Sc') ∧ FC c a Sc Sc' ∧ RC E c a b L (bhd b L q) R Sc' ∧ f_X9_number E n Sm (c + 129) (nI lo) hi = some (nI v, Sm') ∧ FMo c Sm Sm' ∧ RM E c b L (bhd b L q) Rm Sm') ∨ (∃ k p Sc' Sm', f_X4_takeNumber E n Sc (c + 2) (nI lo) hi = some (-1, Sc') ∧ FC c a Sc Sc' ∧ CF c k p Sc' ∧ f_X9_number E n Sm (c + 129) (nI lo) hi = some (0, Sm') ∧ FMo c Sm Sm' ∧ BAD E c k p Sm') := by
  by_cases c1 : nok b L q lo h1
  · obtain ⟨Sc', r1, r2, r3⟩ := cn1 (n := n) hs ha hn hh1 ehi c1
    obtain ⟨Sm', s1, s2, s3⟩ := mn1 (n := n) hm hn hh1 hlo ehi c1
    exact Or.inl ⟨vlu b L q, Sc', Sm', c1.2.1, c1.2.2, r1, r2, r3, s1, s2, s3⟩
  · obtain ⟨Sc', r1, r2, r3⟩ := cn0 (n := n) hs hn hh1 hlo ehi c1
    obtain ⟨Sm', s1, s2, s3⟩ := mn0 (n := n) hm hn hh1 hlo ehi c1
    exact Or.inr ⟨_, _, Sc', Sm', r1, r2, r3, s1, s2, s3⟩
theorem wrd2 (hs : RC E c a b L q R Sc) (hm : RM E c b L q Rm Sm) (ha : a = c + 4 ∨ a = c + 17) (hn : 1500 ≤ n) {w : Nat} (hw : sLen.getD w 0 < 64) : (∃ Sc' Sm', f_X4_takeWord E n Sc (c + 2) w = some (1, Sc') ∧ FC c a Sc Sc' ∧ RC E c a b L (bhd b L q) R Sc' ∧ f_X9_needs E n Sm (c + 129) w = some ((), Sm') ∧ FMo c Sm Sm' ∧ RM E c b L (bhd b L q) Rm Sm') ∨ (∃ k p Sc' Sm', f_X4_takeWord E n Sc (c + 2) w = some (0, Sc') ∧ FC c a Sc Sc' ∧ CF c k p Sc' ∧ f_X9_needs E n Sm (c + 129) w = some ((), Sm') ∧ FMo c Sm Sm' ∧ BAD E c k p Sm') := by
  by_cases c1 : tkw b L q w
  · obtain ⟨Sc', r1, r2, r3⟩ := cw (n := n) hs ha hn hw c1
    obtain ⟨Sm', s1, s2, s3⟩ := mw (n := n) hm hn hw c1
    exact Or.inl ⟨Sc', Sm', r1, r2, r3, s1, s2, s3⟩
  · obtain ⟨Sc', r1, r2, r3⟩ := cwf (n := n) hs hn hw c1
    obtain ⟨Sm', s1, s2, s3⟩ := mwf (n := n) hm hn hw c1
    exact Or.inr ⟨_, _, Sc', Sm', r1, r2, r3, s1, s2, s3⟩
/-- a word, then a number -/
theorem tld2 (hs : RC E c a b L q R Sc) (hm : RM E c b L q Rm Sm) (ha : a = c + 4 ∨ a = c + 17) (hn : 1500 ≤ n) {w : Nat} (hw : sLen.getD w 0 < 64) {lo h1 : Nat} (hlo : lo ≤ 1000) (hh1 : h1 ≤ 1000) {hi : Int32} (ehi : hi = nI h1 - 1) : (∃ v q' Sc1 Sc' Sm', lo ≤ v ∧ v < h1 ∧ q ≤ q' ∧ f_X4_takeWord E n Sc (c + 2) w = some (1, Sc1) ∧ RMt E Sc1 a R ∧ f_X4_takeNumber E n Sc1 (c + 2) (nI lo) hi = some (nI v, Sc') ∧ FC c a Sc Sc' ∧ RC E c a b L q' R Sc' ∧ f_X9_told E n Sm (c + 129) w (nI lo) hi = some (nI v, Sm') ∧ FMo c Sm Sm' ∧ RM E c b L q' Rm Sm') ∨ (∃ k p Sc1 Sc' Sm', ((f_X4_takeWord E n Sc (c + 2) w = some (0, Sc')) ∨ (f_X4_takeWord E n Sc (c + 2) w = some (1, Sc1) ∧ RMt E Sc1 a R ∧ f_X4_takeNumber E n Sc1 (c + 2) (nI lo) hi = some (-1, Sc'))) ∧ FC c a Sc Sc' ∧ CF c k p Sc' ∧ f_X9_told E n Sm (c + 129) w (nI lo) hi = some (0, Sm') ∧ FMo c Sm Sm' ∧ BAD E c k p Sm') := by
  have hb := bhd_le (b := b) hs.2.2
  rcases wrd2 (n := n) hs hm ha hn hw with ⟨Sc1, Sm1, r1, r2, r3, s1, s2, s3⟩ | ⟨k, p, Sc1, Sm1, r1, r2, r3, s1, s2, s3⟩
  · have hb1 := bhd_le (b := b) r3.2.2
    have hs1 := skp_le (b := b) r3.2.2
    have hs0 := skp_le (b := b) hs.2.2
    rcases num2 (n := n) r3 s3 ha hn hlo hh1 ehi with ⟨v, Sc2, Sm2, v1, v2, t1, t2, t3, u1, u2, u3⟩ | ⟨k, p, Sc2, Sm2, t1, t2, t3, u1, u2, u3⟩
    · exact Or.inl ⟨v, _, Sc1, Sc2, Sm2, v1, v2, by omega, r1, r3.2.1, t1, r2.tr t2, t3, by simp only [f_X9_told, s1, bds, u1], s2.tr u2, u3⟩
    · exact Or.inr ⟨k, p, Sc1, Sc2, Sm2, Or.inr ⟨r1, r3.2.1, t1⟩, r2.tr t2, t3, by simp only [f_X9_told, s1, bds, u1], s2.tr u2, u3⟩
  · exact Or.inr ⟨k, p, Sc1, Sc1, Sm1, Or.inl r1, r2, r3, by simp only [f_X9_told, s1, bds, bad_num s3], s2, s3⟩
theorem e_X9_fPlace (hm : RM E c b L q R S) (hw : WF R) : f_X9_freshPlace E n S (c + 129) = f_X9_number E n S (c + 129) 0 (nI (cP R) - 1) := by
  have e : ai S (c + 135) (Int32.toNatClampNeg 0) = nI (cP R) := (hm.2.2.2.2.1 0 (by decide)).trans hw.s0
  simp only [f_X9_freshPlace, hm.2.2.1, obs, hm.2.2.2.1, mg0, e, bd_id]
theorem e_X9_fYear (hm : RM E c b L q R S) (hw : WF R) : f_X9_freshYear E n S (c + 129) = f_X9_number E n S (c + 129) 0 (nI (cY R) - 1) := by
  have e : ai S (c + 135) (Int32.toNatClampNeg 1) = nI (cY R) := (hm.2.2.2.2.1 1 (by decide)).trans hw.s1
  simp only [f_X9_freshYear, hm.2.2.1, obs, hm.2.2.2.1, mg1, e, bd_id]
def mHgt (E : EN) (n : Nat) (S : WS) (h0 : Nat) : Option (Unit × WS) :=
  bd (f_X9_freshPlace E n S h0) fun v47 S46 =>
  bd (f_X9_number E n S46 h0 (0 : Int32) (99 : Int32)) fun v49 S48 =>
  bd (f_X9_good E n S48 h0) fun v51 S50 =>
  if v51 = 0 then
    some ((), S50)
  else
    (gr S50 526 h0).bind fun b52 =>
    if ((7 : Int32) + v47) < 0 ∨ eN E b52 ≤ ((7 : Int32) + v47).toNatClampNeg then none else
    lt (wi S50 b52 (upd (ai S50 b52) ((7 : Int32) + v47).toNatClampNeg v49)) fun S53 =>
    some ((), S53)
theorem ln_hgt (hs : RC E c a b L q R Sc) (hm : RM E c b L (bhd b L q) R Sm) (ha : a = c + 4 ∨ a = c + 17) (hn : 1500 ≤ n) (hw : WF R) (h0 : 0 < cP R) : OUT E c a b L q R Sc Sm (f_X4_readHeight E n Sc (c + 2) a) (mHgt E n Sm (c + 129)) := by
  have hP := hw.lP
  have hb := bhd_le (b := b) hs.2.2
  have hk := skp_le (b := b) hs.2.2
  obtain ⟨Sc1, g1, g2, g3⟩ := e_X4_go (n := n) hs ha hn
  have e129 : gi Sc1 129 a = nI (cP R) := g3.2.1.i129.trans hw.s0
  rcases num2 (n := n) (lo := 0) (h1 := cP R) g3 hm ha hn (by omega) (by omega) rfl with ⟨v, Sc2, Sm2, v1, v2, t1, t2, t3, u1, u2, u3⟩ | ⟨k, p, Sc2, Sm2, t1, t2, t3, u1, u2, u3⟩
  · have t1 : f_X4_takeNumber E n Sc1 (c + 2) 0 (nI (cP R) - 1) = some (nI v, Sc2) := t1
    have u1 : f_X9_number E n Sm (c + 129) 0 (nI (cP R) - 1) = some (nI v, Sm2) := u1
    have hb1 := bhd_le (b := b) g3.2.2
    have hk1 := skp_le (b := b) g3.2.2
    rcases num2 (n := n) (lo := 0) (h1 := 100) (hi := 99) t3 u3 ha hn (by omega) (by omega) (by decide) with ⟨w, Sc3, Sm3, w1, w2, x1, x2, x3, y1, y2, y3⟩ | ⟨k, p, Sc3, Sm3, x1, x2, x3, y1, y2, y3⟩
    · have x1 : f_X4_takeNumber E n Sc2 (c + 2) 0 99 = some (nI w, Sc3) := x1
      have y1 : f_X9_number E n Sm2 (c + 129) 0 99 = some (nI w, Sm3) := y1
      have hb2 := bhd_le (b := b) t3.2.2
      have hk2 := skp_le (b := b) t3.2.2
      refine Or.inl ⟨_, upd R (7 + v) (nI w), wi Sc3 (a + 1) (upd (ai Sc3 (a + 1)) v (nI w)), wi Sm3 (c + 135) (upd (ai Sm3 (c + 135)) (7 + v) (nI w)), ?_, ((g2.tr t2).tr x2).tr (fc_w (by omega)), x3.u (x3.2.1.uH (by omega) _) (fun _ => rfl) (fun _ => rfl) (ai_wi_a (by omega)), ?_, (u2.tr y2).tr fm_w, y3.u _ _, hw.uH h0 (by omega) (by omega), ?_, pk_un (by omega), by omega⟩
      · simp only [f_X4_readHeight, g1, bds, e129, t1, if_neg (nIm1 (show v < 2 ^ 31 by omega)), x1, if_neg (nIm1 (show w < 2 ^ 31 by omega)), x3.2.1.g135, obs, x3.2.1.n1, nI_clamp (show v < 2 ^ 31 by omega), ifn (rinc (show v < 8 by omega) (show 8 < 2 ^ 31 by omega)), lts]
      · simp only [mHgt, e_X9_fPlace hm hw, u1, bds, y1, gd_t y3.2.1, if_neg o10, y3.2.2.1, obs, y3.2.2.2.1, ixH, nI_clamp (show 7 + v < 2 ^ 31 by omega), ifn (rinc (show 7 + v < 109 by omega) (show 109 < 2 ^ 31 by omega)), lts]
      · show 0 < cP (upd R (7 + v) (nI w))
        rw [show cP (upd R (7 + v) (nI w)) = cP R from cE (pk_un (by omega))]; exact h0
    · have x1 : f_X4_takeNumber E n Sc2 (c + 2) 0 99 = some (-1, Sc3) := x1
      have y1 : f_X9_number E n Sm2 (c + 129) 0 99 = some (0, Sm3) := y1
      refine Or.inr ⟨k, p, Sc3, Sm3, ?_, (g2.tr t2).tr x2, x3, ?_, u2.tr y2, y3⟩
      · simp only [f_X4_readHeight, g1, bds, e129, t1, if_neg (nIm1 (show v < 2 ^ 31 by omega)), x1, if_true]
      · simp only [mHgt, e_X9_fPlace hm hw, u1, bds, y1, gd_f y3, if_true]
  · have t1 : f_X4_takeNumber E n Sc1 (c + 2) 0 (nI (cP R) - 1) = some (-1, Sc2) := t1
    have u1 : f_X9_number E n Sm (c + 129) 0 (nI (cP R) - 1) = some (0, Sm2) := u1
    refine Or.inr ⟨k, p, Sc2, Sm2, ?_, g2.tr t2, t3, ?_, u2, u3⟩
    · simp only [f_X4_readHeight, g1, bds, e129, t1, if_true]
    · simp only [mHgt, e_X9_fPlace hm hw, u1, bds, bad_num u3, gd_f u3, if_true]
def mRain (E : EN) (n : Nat) (S : WS) (h0 : Nat) : Option (Unit × WS) :=
  bd (f_X9_freshYear E n S h0) fun v33 S32 =>
  bd (f_X9_told E n S32 h0 13 (0 : Int32) (100 : Int32)) fun v35 S34 =>
  bd (f_X9_good E n S34 h0) fun v37 S36 =>
  if v37 = 0 then
    some ((), S36)
  else
    (gr S36 526 h0).bind fun b38 =>
    if ((15 : Int32) + v33) < 0 ∨ eN E b38 ≤ ((15 : Int32) + v33).toNatClampNeg then none else
    lt (wi S36 b38 (upd (ai S36 b38) ((15 : Int32) + v33).toNatClampNeg v35)) fun S39 =>
    some ((), S39)
theorem WF.bs (hw : WF R) : cA R ≤ 10 ∧ cB R ≤ 4 ∧ cS R ≤ 7 ∧ cW R ≤ 4 := ⟨hw.lA, hw.lB, hw.lS, hw.lW⟩
theorem ln_rain (hs : RC E c a b L q R Sc) (hm : RM E c b L (bhd b L q) R Sm) (ha : a = c + 4 ∨ a = c + 17) (hn : 1500 ≤ n) (hw : WF R) (h0 : 0 < cP R) : OUT E c a b L q R Sc Sm (f_X4_readRain E n Sc (c + 2) a) (mRain E n Sm (c + 129)) := by
  have hY := hw.lY
  have hb := bhd_le (b := b) hs.2.2
  have hk := skp_le (b := b) hs.2.2
  obtain ⟨Sc1, g1, g2, g3⟩ := e_X4_go (n := n) hs ha hn
  have e130 : gi Sc1 130 a = nI (cY R) := g3.2.1.i130.trans hw.s1
  rcases num2 (n := n) (lo := 0) (h1 := cY R) g3 hm ha hn (by omega) (by omega) rfl with ⟨v, Sc2, Sm2, v1, v2, t1, t2, t3, u1, u2, u3⟩ | ⟨k, p, Sc2, Sm2, t1, t2, t3, u1, u2, u3⟩
  · have t1 : f_X4_takeNumber E n Sc1 (c + 2) 0 (nI (cY R) - 1) = some (nI v, Sc2) := t1
    have u1 : f_X9_number E n Sm (c + 129) 0 (nI (cY R) - 1) = some (nI v, Sm2) := u1
    have hb1 := bhd_le (b := b) g3.2.2
    have hk1 := skp_le (b := b) g3.2.2
    rcases tld2 (n := n) (w := 13) (lo := 0) (h1 := 101) (hi := 100) t3 u3 ha hn (by decide) (by omega) (by omega) (by decide) with ⟨w, q', Sc3, Sc4, Sm3, w1, w2, w3, x0, xr, x1, x2, x3, y1, y2, y3⟩ | ⟨k, p, Sc3, Sc4, Sm3, x1, x2, x3, y1, y2, y3⟩
    · have x1 : f_X4_takeNumber E n Sc3 (c + 2) 0 100 = some (nI w, Sc4) := x1
      have y1 : f_X9_told E n Sm2 (c + 129) 13 0 100 = some (nI w, Sm3) := y1
      refine Or.inl ⟨q', upd R (15 + v) (nI w), wi Sc4 (a + 10) (upd (ai Sc4 (a + 10)) v (nI w)), wi Sm3 (c + 135) (upd (ai Sm3 (c + 135)) (15 + v) (nI w)), ?_, ((g2.tr t2).tr x2).tr (fc_w (by omega)), x3.u (x3.2.1.uR (by omega) hw.bs _) (fun _ => rfl) (fun _ => rfl) (ai_wi_a (by omega)), ?_, (u2.tr y2).tr fm_w, y3.u _ _, hw.uR h0 (by omega) (by omega), ?_, pk_un (by omega), by omega⟩
      · simp only [f_X4_readRain, g1, bds, e130, t1, if_neg (nIm1 (show v < 2 ^ 31 by omega)), x0, if_neg o10, x1, if_neg (nIm1 (show w < 2 ^ 31 by omega)), x3.2.1.g144, obs, x3.2.1.n10, nI_clamp (show v < 2 ^ 31 by omega), ifn (rinc (show v < 30 by omega) (show 30 < 2 ^ 31 by omega)), lts]
      · simp only [mRain, e_X9_fYear hm hw, u1, bds, y1, gd_t y3.2.1, if_neg o10, y3.2.2.1, obs, y3.2.2.2.1, ixR, nI_clamp (show 15 + v < 2 ^ 31 by omega), ifn (rinc (show 15 + v < 109 by omega) (show 109 < 2 ^ 31 by omega)), lts]
      · show 0 < cP (upd R (15 + v) (nI w))
        rw [show cP (upd R (15 + v) (nI w)) = cP R from cE (pk_un (by omega))]; exact h0
    · have y1 : f_X9_told E n Sm2 (c + 129) 13 0 100 = some (0, Sm3) := y1
      refine Or.inr ⟨k, p, Sc4, Sm3, ?_, (g2.tr t2).tr x2, x3, ?_, u2.tr y2, y3⟩
      · rcases x1 with x1 | ⟨x0, -, x1⟩
        · simp only [f_X4_readRain, g1, bds, e130, t1, if_neg (nIm1 (show v < 2 ^ 31 by omega)), x1, if_true]
        · have x1 : f_X4_takeNumber E n Sc3 (c + 2) 0 100 = some (-1, Sc4) := x1
          simp only [f_X4_readRain, g1, bds, e130, t1, if_neg (nIm1 (show v < 2 ^ 31 by omega)), x0, if_neg o10, x1, if_true]
      · simp only [mRain, e_X9_fYear hm hw, u1, bds, y1, gd_f y3, if_true]
  · have t1 : f_X4_takeNumber E n Sc1 (c + 2) 0 (nI (cY R) - 1) = some (-1, Sc2) := t1
    have u1 : f_X9_number E n Sm (c + 129) 0 (nI (cY R) - 1) = some (0, Sm2) := u1
    refine Or.inr ⟨k, p, Sc2, Sm2, ?_, g2.tr t2, t3, ?_, u2, u3⟩
    · simp only [f_X4_readRain, g1, bds, e130, t1, if_true]
    · simp only [mRain, e_X9_fYear hm hw, u1, bds, bad_told u3 (show 2 ≤ n by omega), gd_f u3, if_true]
end LIN
