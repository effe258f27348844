/-! Lines of a mountain, both ways: paths, courtings -/
section LNP
variable {E : EN} {n c a : Nat} {S S' Sc Sm : WS} {b : Nat → Int32} {L q : Nat} {R R' : Nat → Int32}
theorem ix45 (p : Nat) : (45 : Int32) + (2 : Int32) * nI p = nI (45 + 2 * p) := by
  show nI 45 + nI 2 * nI p = _; rw [pk_mul, nI_add]
theorem e_X9_isFP (hm : RM E c b L q R S) (hw : WF R) (hn : 1500 ≤ n) (x y : Int32) : f_X9_isFreshPath E n S (c + 129) x y = some (b2i (∃ p, p < cA R ∧ isb R x y p), S) := by
  have hA := hw.lA
  have r2 : ai S (c + 135) (Int32.toNatClampNeg 2) = R 2 := hm.2.2.2.2.1 2 (by decide)
  refine lp (N := cA R) (P := fun p m => (∀ t, t < p → ¬ isb R x y t) → f_X9_isFreshPath_L2 E n m S (c + 129) x y (nI p) = some (b2i (∃ p, p < cA R ∧ isb R x y p), S)) ?_ ?_ (cA R) 0 n (by omega) (by omega) (fun t ht => by omega)
  · intro m hq
    simp only [f_X9_isFreshPath_L2, hm.2.2.1, obs, hm.2.2.2.1, mg2, r2, hw.t2, if_true]
    rw [b2i_f (fun ⟨p, hp, z⟩ => hq p hp z)]
  · intro p m hp ih hq
    have e46 : 45 + 2 * p + 1 = 46 + 2 * p := by omega
    simp only [f_X9_isFreshPath_L2, f_X9_isFreshPath_J44, hm.2.2.1, obs, hm.2.2.2.1, mg2, r2, hw.f2 hp, if_false, ix45, lts, nI_1, e46, nI_clamp (show 45 + 2 * p < 2 ^ 31 by omega), nI_clamp (show 46 + 2 * p < 2 ^ 31 by omega), ifn (rinc (show 45 + 2 * p < 109 by omega) (show 109 < 2 ^ 31 by omega)), ifn (rinc (show 46 + 2 * p < 109 by omega) (show 109 < 2 ^ 31 by omega)), hm.2.2.2.2.1 _ (show 45 + 2 * p < 109 by omega), hm.2.2.2.2.1 _ (show 46 + 2 * p < 109 by omega)]
    rw [pb_step]
    by_cases d : isb R x y p
    · rw [if_pos d, b2i_t ⟨p, hp, d⟩]
    · rw [if_neg d]
      exact ih (fun t ht => by
        by_cases et : t = p
        · subst et; exact d
        · exact hq t (by omega))
theorem ff_m1 {P : Nat → Prop} : ∀ k s, s + k < 2 ^ 31 → (ff P k s = -1 ↔ ∀ t, s ≤ t → t < s + k → ¬ P t) := by
  intro k
  induction k with
  | zero => intro s _; rw [ff]; exact ⟨fun _ t h1 h2 => by omega, fun _ => rfl⟩
  | succ k ih =>
    intro s hs
    rw [ff]
    by_cases d : P s
    · rw [if_pos d]
      exact ⟨fun q => absurd q (nIm1 (by omega)), fun q => absurd d (q s (Nat.le_refl _) (by omega))⟩
    · rw [if_neg d, ih (s + 1) (by omega)]
      constructor
      · intro q t h1 h2
        by_cases et : t = s
        · subst et; exact d
        · exact q t (by omega) (by omega)
      · intro q t h1 h2; exact q t (by omega) (by omega)
theorem pbt_m1 (hw : WF R) {x y : Int32} : pbt R x y = -1 ↔ ¬ ∃ p, p < cA R ∧ isb R x y p := by
  have hA := hw.lA
  rw [show pbt R x y = ff (isb R x y) (cA R) 0 from rfl, ff_m1 _ _ (by omega)]
  exact ⟨fun q ⟨p, hp, z⟩ => q p (Nat.zero_le _) (by omega) z, fun q t _ h2 z => q ⟨t, by omega, z⟩⟩
theorem isb_min (hw : WF R) {x : Int32} {v p : Nat} (hp : p < cA R) (hv : v ≤ 1000000) : isb R x (nI (min 99999 v)) p ↔ isb R x (nI v) p := by
  have hP := hw.lP
  obtain ⟨u, w, h1, h2, -, e1, e2, -, -⟩ := hw.pth hp
  have k : ∀ t, t < 8 → (nI t = nI (min 99999 v) ↔ nI t = nI v) := fun t ht => by
    rw [nI_eq (by omega) (by omega), nI_eq (by omega) (by omega)]; omega
  unfold isb
  rw [e1, e2, k u (by omega), k w (by omega)]
theorem isb_lt (hw : WF R) {x : Int32} {v p : Nat} (hp : p < cA R) (hv : v ≤ 1000000) (h : isb R x (nI v) p) : v < cP R := by
  have hP := hw.lP
  obtain ⟨u, w, h1, h2, -, e1, e2, -, -⟩ := hw.pth hp
  unfold isb at h
  rw [e1, e2] at h
  rcases h with ⟨-, z⟩ | ⟨z, -⟩
  · rw [nI_eq (by omega) (by omega)] at z; omega
  · rw [nI_eq (by omega) (by omega)] at z; omega
theorem J63_bad {k p : Nat} (h : BAD E c k p S) (hr : True) (x y : Int32) : f_X9_readPath_J63 E n S (c + 129) x y = some ((), S) := by
  simp only [f_X9_readPath_J63, f_X9_freshPlace, h.fm.1, obs, h.fm.2, mg0, bad_num h, bds, gd_f h, if_true]
theorem ln_pth (hs : RC E c a b L q R Sc) (hm : RM E c b L (bhd b L q) R Sm) (ha : a = c + 4 ∨ a = c + 17) (hn : 1500 ≤ n) (hw : WF R) (h0 : 0 < cP R) (hA : cA R < 10) : OUT E c a b L q R Sc Sm (f_X4_readPath E n Sc (c + 2) a) (f_X9_readPath E n Sm (c + 129)) := by
  have hP := hw.lP
  have hb := bhd_le (b := b) hs.2.2
  have hk := skp_le (b := b) hs.2.2
  have e46 : 45 + 2 * cA R + 1 = 46 + 2 * cA R := by omega
  obtain ⟨Sc1, g1, g2, g3⟩ := e_X4_go (n := n) hs ha hn
  have e129 : gi Sc1 129 a = nI (cP R) := g3.2.1.i129.trans hw.s0
  have m2 : ai Sm (c + 135) (Int32.toNatClampNeg 2) = nI (cA R) := (hm.2.2.2.2.1 2 (by decide)).trans hw.s2
  have hb1 := bhd_le (b := b) g3.2.2
  have hk1 := skp_le (b := b) g3.2.2
  rcases num2 (n := n) (lo := 0) (h1 := cP R) g3 hm ha hn (by omega) (by omega) rfl with ⟨v, Sc2, Sm2, v1, v2, t1, t2, t3, u1, u2, u3⟩ | ⟨k, p, Sc2, Sm2, t1, t2, t3, u1, u2, u3⟩
  · have t1 : f_X4_takeNumber E n Sc1 (c + 2) 0 (nI (cP R) - 1) = some (nI v, Sc2) := t1
    have u1 : f_X9_number E n Sm (c + 129) 0 (nI (cP R) - 1) = some (nI v, Sm2) := u1
    have hb2 := bhd_le (b := b) t3.2.2
    have hk2 := skp_le (b := b) t3.2.2
    rcases wrd2 (n := n) (w := 5) t3 u3 ha hn (by decide) with ⟨Sc3, Sm3, x1, x2, x3, y1, y2, y3⟩ | ⟨k, p, Sc3, Sm3, x1, x2, x3, y1, y2, y3⟩
    · obtain ⟨q3, hq3⟩ : ∃ q3, q3 = bhd b L (bhd b L (bhd b L q)) := ⟨_, rfl⟩
      rw [← hq3] at x3 y3
      have hb3 := bhd_le (b := b) x3.2.2
      have hk3 := skp_le (b := b) x3.2.2
      have hv3 := vlu_le (b := b) (L := L) (q := q3)
      have e129' : gi Sc3 129 a = nI (cP R) := x3.2.1.i129.trans hw.s0
      have e197 : gi Sc3 197 (c + 2) = nI (vlu b L q3) := x3.1.2.2.2.2
      -- the class, up to the second number
      have cst : f_X4_readPath E n Sc (c + 2) a = if knd b L q3 = 2 then (if vlu b L q3 = v then (bd (f_X4_failHere E n Sc3 (c + 2) 2) fun v8 S7 => zc v8 S7) else @ite _ (∃ p, p < cA R ∧ isb R (nI v) (nI (vlu b L q3)) p) (Classical.propDecidable _) (bd (f_X4_failHere E n Sc3 (c + 2) 2) fun v8 S7 => zc v8 S7) (f_X4_readPath_J67 E n Sc3 (c + 2) a (nI v))) else f_X4_readPath_J67 E n Sc3 (c + 2) a (nI v) := by
        simp only [f_X4_readPath, g1, bds, e129, t1, if_neg (nIm1 (show v < 2 ^ 31 by omega)), x1, if_neg o10, e197, e_X3_pathBetween x3.2.1 hw (show 11 ≤ n by omega)]
        by_cases c1 : knd b L q3 = 2
        · rw [if_pos ((kd2 x3.1).mpr c1), if_pos c1]
          by_cases c2 : vlu b L q3 = v
          · rw [if_pos (congrArg nI c2), if_pos c2]
          · rw [if_neg (fun z => c2 ((nI_eq (by omega) (by omega)).mp z)), if_neg c2]
            by_cases c3 : ∃ p, p < cA R ∧ isb R (nI v) (nI (vlu b L q3)) p
            · rw [if_neg (fun z => (pbt_m1 hw).mp z c3), if_pos c3]
            · rw [if_pos ((pbt_m1 hw).mpr c3), if_neg c3]
        · rw [if_neg (fun z => c1 ((kd2 x3.1).mp z)), if_neg c1]
      have mst : f_X9_readPath E n Sm (c + 129) = if knd b L q3 = 2 then (if vlu b L q3 = v then (bd (f_X9_errs E n Sm3 (c + 129) 2) fun _ S9 => f_X9_readPath_J63 E n S9 (c + 129) (nI (45 + 2 * cA R)) (nI v)) else @ite _ (∃ p, p < cA R ∧ isb R (nI v) (nI (vlu b L q3)) p) (Classical.propDecidable _) (bd (f_X9_errs E n Sm3 (c + 129) 2) fun _ S9 => f_X9_readPath_J63 E n S9 (c + 129) (nI (45 + 2 * cA R)) (nI v)) (f_X9_readPath_J63 E n Sm3 (c + 129) (nI (45 + 2 * cA R)) (nI v))) else f_X9_readPath_J63 E n Sm3 (c + 129) (nI (45 + 2 * cA R)) (nI v) := by
        simp only [f_X9_readPath, hm.2.2.1, obs, hm.2.2.2.1, mg2, m2, ix45, lts, e_X9_fPlace hm hw, u1, bds, y1, gd_t y3.2.1, if_neg o10]
        by_cases c1 : knd b L q3 = 2
        · have e523 := y3.1.2.2.2.2 c1
          rw [if_pos ((mk2 y3.1).mpr c1), if_pos c1, e523, e_X9_isFP y3 hw hn, bds]
          by_cases c2 : vlu b L q3 = v
          · rw [if_pos (show nI (min 99999 (vlu b L q3)) = nI v by rw [c2, Nat.min_eq_right (by omega)]), if_pos c2]
          · rw [if_neg (fun z => c2 (by have := (nI_eq (show min 99999 (vlu b L q3) < 2 ^ 31 by omega) (show v < 2 ^ 31 by omega)).mp z; omega)), if_neg c2]
            have ee : (∃ p, p < cA R ∧ isb R (nI v) (nI (min 99999 (vlu b L q3))) p) ↔ ∃ p, p < cA R ∧ isb R (nI v) (nI (vlu b L q3)) p := ⟨fun ⟨p, hp, z⟩ => ⟨p, hp, (isb_min hw hp hv3).mp z⟩, fun ⟨p, hp, z⟩ => ⟨p, hp, (isb_min hw hp hv3).mpr z⟩⟩
            rw [b2i_c ee]
            by_cases c3 : ∃ p, p < cA R ∧ isb R (nI v) (nI (vlu b L q3)) p
            · rw [ifb1 c3, if_pos c3]
            · rw [ifb0 c3, if_neg c3]
        · rw [if_neg (fun z => c1 ((mk2 y3.1).mp z)), if_neg c1]
      have both2 : OUT E c a b L q R Sc Sm (bd (f_X4_failHere E n Sc3 (c + 2) 2) fun v8 S7 => zc v8 S7) (bd (f_X9_errs E n Sm3 (c + 129) 2) fun _ S9 => f_X9_readPath_J63 E n S9 (c + 129) (nI (45 + 2 * cA R)) (nI v)) := by
        obtain ⟨Sc4, f1, f2, f3⟩ := cf_ok (n := n) 2 x3
        obtain ⟨Sm4, h1, h2, h3⟩ := me (n := n) 2 (by decide) y3
        have f1 : f_X4_failHere E n Sc3 (c + 2) 2 = some (0, Sc4) := f1
        have h1 : f_X9_errs E n Sm3 (c + 129) 2 = some ((), Sm4) := h1
        exact Or.inr ⟨2, _, Sc4, Sm4, by rw [f1, bds, zc0], ((g2.tr t2).tr x2).tr f2, f3, by rw [h1, bds, J63_bad h3 trivial], (u2.tr y2).tr h2, h3⟩
      rw [cst, mst]
      by_cases nk : nok b L q3 0 (cP R)
      · rw [if_pos nk.1, if_pos nk.1]
        by_cases c2 : vlu b L q3 = v
        · rw [if_pos c2, if_pos c2]; exact both2
        · rw [if_neg c2, if_neg c2]
          by_cases c3 : ∃ p, p < cA R ∧ isb R (nI v) (nI (vlu b L q3)) p
          · rw [if_pos c3, if_pos c3]; exact both2
          · rw [if_neg c3, if_neg c3]
            obtain ⟨Sc4, f1, f2, f3⟩ := cn1 (n := n) x3 ha hn (lo := 0) (h1 := cP R) (hi := nI (cP R) - 1) (by omega) rfl nk
            obtain ⟨Sm4, h1, h2, h3⟩ := mn1 (n := n) y3 hn (lo := 0) (h1 := cP R) (hi := nI (cP R) - 1) (by omega) (by omega) rfl nk
            have f1 : f_X4_takeNumber E n Sc3 (c + 2) 0 (nI (cP R) - 1) = some (nI (vlu b L q3), Sc4) := f1
            have h1 : f_X9_number E n Sm3 (c + 129) 0 (nI (cP R) - 1) = some (nI (vlu b L q3), Sm4) := h1
            have e131 : gi Sc4 131 a = nI (cA R) := f3.2.1.i131.trans hw.s2
            have g11 : ∀ g, gr (wi Sc4 (a + 2) g) 137 a = some (a + 3) := fun g => f3.2.1.g137
            have i34 : ∀ g g2, gi (wi (wi Sc4 (a + 2) g) (a + 3) g2) 131 a = nI (cA R) := fun g g2 => e131
            have i34' : ∀ g, gi (wi Sc4 (a + 2) g) 131 a = nI (cA R) := fun g => e131
            have a12 : ∀ g, ai (wi Sc4 (a + 2) g) (a + 3) = ai Sc4 (a + 3) := fun g => ai_wi_a (by omega)
            obtain ⟨M1, hM1⟩ : ∃ M1, M1 = wi Sm4 (c + 135) (upd (ai Sm4 (c + 135)) (45 + 2 * cA R) (nI v)) := ⟨_, rfl⟩
            have r1 : RM E c b L (bhd b L q3) (upd R (45 + 2 * cA R) (nI v)) M1 := by rw [hM1]; exact h3.u _ _
            obtain ⟨M2, hM2⟩ : ∃ M2, M2 = wi M1 (c + 135) (upd (ai M1 (c + 135)) (46 + 2 * cA R) (nI (vlu b L q3))) := ⟨_, rfl⟩
            have r2 : RM E c b L (bhd b L q3) (upd (upd R (45 + 2 * cA R) (nI v)) (46 + 2 * cA R) (nI (vlu b L q3))) M2 := by rw [hM2]; exact r1.u _ _
            have m22 : ai M2 (c + 135) 2 = nI (cA R) := (r2.2.2.2.2.1 2 (by decide)).trans ((pk_un (by omega)).trans ((pk_un (by omega)).trans hw.s2))
            refine Or.inl ⟨bhd b L q3, upd (upd (upd R (45 + 2 * cA R) (nI v)) (46 + 2 * cA R) (nI (vlu b L q3))) 2 (nI (cA R + 1)), si (wi (wi Sc4 (a + 2) (upd (ai Sc4 (a + 2)) (cA R) (nI v))) (a + 3) (upd (ai Sc4 (a + 3)) (cA R) (nI (vlu b L q3)))) 131 a (nI (cA R + 1)), wi M2 (c + 135) (upd (ai M2 (c + 135)) 2 (nI (cA R + 1))), ?_, (((g2.tr t2).tr x2).tr f2).tr (((fc_w (by omega)).tr (fc_w (by omega))).tr (fc_a (by omega))), f3.u (f3.2.1.uA ⟨hA, hw.lB, hw.lS, hw.lW⟩ _ _) (fun _ => rfl) (fun f => gi_si_a (by omega)) ((ai_wi_a (by omega)).trans (ai_wi_a (by omega))), ?_, ((u2.tr y2).tr h2).tr ((by rw [hM1]; exact fm_w : FMo c Sm4 M1).tr ((by rw [hM2]; exact fm_w : FMo c M1 M2).tr fm_w)), r2.u _ _, hw.uA h0 hA v2 nk.2.2 (fun z => c2 z.symm) (fun p hp z => c3 ⟨p, hp, z⟩), ?_, ?_, by omega⟩
            · simp only [f_X4_readPath_J67, e129', f1, bds, if_neg (nIm1 (show vlu b L q3 < 2 ^ 31 by omega)), f3.2.1.g136, obs, f3.2.1.n2, e131, nI_clamp (show cA R < 2 ^ 31 by omega), ifn (rinc hA (show 10 < 2 ^ 31 by omega)), lts, g11, f3.2.1.n3, i34', i34, a12, nI_1]
            · simp only [f_X9_readPath_J63, e_X9_fPlace y3 hw, h1, bds, gd_t h3.2.1, if_neg o10, h3.2.2.1, obs, hm.2.2.2.1, nI_1, e46, nI_clamp (show 45 + 2 * cA R < 2 ^ 31 by omega), nI_clamp (show 46 + 2 * cA R < 2 ^ 31 by omega), ifn (rinc (show 45 + 2 * cA R < 109 by omega) (show 109 < 2 ^ 31 by omega)), ifn (rinc (show 46 + 2 * cA R < 109 by omega) (show 109 < 2 ^ 31 by omega)), lts]
              rw [← hM1]
              simp only [r1.2.2.1, obs, hm.2.2.2.1, ifn (rinc (show 46 + 2 * cA R < 109 by omega) (show 109 < 2 ^ 31 by omega))]
              rw [← hM2]
              simp only [r2.2.2.1, obs, hm.2.2.2.1, mg2, t2n, m22, nI_1, lts]
              rw [if_neg (by decide), if_neg (by decide)]
            · show 0 < cP (upd (upd (upd R (45 + 2 * cA R) (nI v)) (46 + 2 * cA R) (nI (vlu b L q3))) 2 (nI (cA R + 1)))
              rw [show cP (upd (upd (upd R (45 + 2 * cA R) (nI v)) (46 + 2 * cA R) (nI (vlu b L q3))) 2 (nI (cA R + 1))) = cP R from cE ((pk_un (by omega)).trans ((pk_un (by omega)).trans (pk_un (by omega))))]; exact h0
            · exact (pk_un (by omega)).trans ((pk_un (by omega)).trans (pk_un (by omega)))
      · have fin : OUT E c a b L q R Sc Sm (f_X4_readPath_J67 E n Sc3 (c + 2) a (nI v)) (f_X9_readPath_J63 E n Sm3 (c + 129) (nI (45 + 2 * cA R)) (nI v)) := by
          obtain ⟨Sc4, f1, f2, f3⟩ := cn0 (n := n) x3 hn (lo := 0) (h1 := cP R) (hi := nI (cP R) - 1) (by omega) (by omega) rfl nk
          obtain ⟨Sm4, h1, h2, h3⟩ := mn0 (n := n) y3 hn (lo := 0) (h1 := cP R) (hi := nI (cP R) - 1) (by omega) (by omega) rfl nk
          have f1 : f_X4_takeNumber E n Sc3 (c + 2) 0 (nI (cP R) - 1) = some (-1, Sc4) := f1
          have h1 : f_X9_number E n Sm3 (c + 129) 0 (nI (cP R) - 1) = some (0, Sm4) := h1
          refine Or.inr ⟨_, _, Sc4, Sm4, ?_, ((g2.tr t2).tr x2).tr f2, f3, ?_, (u2.tr y2).tr h2, h3⟩
          · simp only [f_X4_readPath_J67, e129', f1, bds, if_true]
          · simp only [f_X9_readPath_J63, e_X9_fPlace y3 hw, h1, bds, gd_f h3, if_true]
        by_cases c1 : knd b L q3 = 2
        · have c2 : ¬ vlu b L q3 = v := fun z => nk ⟨c1, by omega, by omega⟩
          have c3 : ¬ ∃ p, p < cA R ∧ isb R (nI v) (nI (vlu b L q3)) p := fun ⟨p, hp, z⟩ => nk ⟨c1, by omega, isb_lt hw hp hv3 z⟩
          rw [if_pos c1, if_pos c1, if_neg c2, if_neg c2, if_neg c3, if_neg c3]; exact fin
        · rw [if_neg c1, if_neg c1]; exact fin
    · refine Or.inr ⟨k, p, Sc3, Sm3, ?_, (g2.tr t2).tr x2, x3, ?_, u2.tr y2, y3⟩
      · simp only [f_X4_readPath, g1, bds, e129, t1, if_neg (nIm1 (show v < 2 ^ 31 by omega)), x1, if_true]
      · simp only [f_X9_readPath, hm.2.2.1, obs, hm.2.2.2.1, mg2, m2, ix45, lts, e_X9_fPlace hm hw, u1, bds, y1, gd_f y3, if_true, J63_bad y3 trivial]
  · have t1 : f_X4_takeNumber E n Sc1 (c + 2) 0 (nI (cP R) - 1) = some (-1, Sc2) := t1
    have u1 : f_X9_number E n Sm (c + 129) 0 (nI (cP R) - 1) = some (0, Sm2) := u1
    refine Or.inr ⟨k, p, Sc2, Sm2, ?_, g2.tr t2, t3, ?_, u2, u3⟩
    · simp only [f_X4_readPath, g1, bds, e129, t1, if_true]
    · simp only [f_X9_readPath, hm.2.2.1, obs, hm.2.2.2.1, mg2, m2, ix45, lts, e_X9_fPlace hm hw, u1, bds, bad_needs u3 (show 2 ≤ n by omega), gd_f u3, if_true, J63_bad u3 trivial]
end LNP
