/-! fewest, whom, all, courtings, busy -/
section CTO
variable {E : EN} {n c : Nat} {S0 S : WS} {x : Nat} {M : Nat → Int32} {B : BW}
theorem tso_one (h0 : Inv E c S0 x M) (hn : 20 ≤ n) {w t : Nat} (hk : w < cW M) (y : Int32) : TSo c S0 M (fun c1 => CC0 M w (w + 1) t (cnt (ab0 M y) c1 (cS M))) (fun S => f_X9_canCome E n S (c + 129) (nI w) (nI t) y) := by
  intro S c0 hI hc
  have o := hI.o h0
  have e := e_X9_canCome (n := n) o (WF_Mc h0.w hc) (by omega) (w := w) (by rw [Mc_n.2.2.2.2.2]; exact hk) (nI t) y
  have q := (come_Mc h0.w hc (t := t) hk y).trans (show cmr M w (opw M (cnt (ab0 M y) c0 (cS M)) w (cA M)) t ↔ CC0 M w (w + 1) t (cnt (ab0 M y) c0 (cS M)) from ⟨fun q w' h1 h2 => by rw [show w' = w by omega]; exact q, fun q => q w (Nat.le_refl _) (by omega)⟩)
  rw [b2i_c q] at e
  exact ⟨_, e, KP.si (by unfold kf; omega), fun _ => rfl, fun f q hf => gi_si_f hf⟩
theorem tso_all (h0 : Inv E c S0 x M) (hn : 20 ≤ n) {t : Nat} (y : Int32) : TSo c S0 M (fun c1 => CC0 M 0 (cW M) t (cnt (ab0 M y) c1 (cS M))) (fun S => f_X9_allCanCome E n S (c + 129) (nI t) y) := by
  intro S c0 hI hc
  have hW := h0.w.lW
  have wc := WF_Mc h0.w hc
  refine lp (N := cW M) (P := fun w k => ∀ S, MI c S0 M c0 S → (∀ w', w' < w → cmr M w' (opw M (cnt (ab0 M y) c0 (cS M)) w' (cA M)) t) → ∃ S1, f_X9_allCanCome_L2 E n k S (c + 129) (nI t) y (nI w) = some (b2i (CC0 M 0 (cW M) t (cnt (ab0 M y) c0 (cS M))), S1) ∧ KP c S S1 ∧ (∀ q, ai S1 q = ai S q) ∧ ∀ f q, f ≠ 528 → gi S1 f q = gi S f q) ?_ ?_ (cW M) 0 n (by omega) (by omega) S hI (fun w' hw' => by omega)
  · intro k S hI hq
    have o := hI.o h0
    have v5 : ai S (c + 129 + 1) (Int32.toNatClampNeg 5) = M 5 := o.v5.trans (Mc_lo (by decide))
    refine ⟨S, ?_, KP.rf, fun _ => rfl, fun _ _ _ => rfl⟩
    simp only [f_X9_allCanCome_L2, o.1, obs, o.2.1, mg5, v5, h0.w.t5, if_true]
    rw [b2i_t (show CC0 M 0 (cW M) t (cnt (ab0 M y) c0 (cS M)) from fun w' _ h2 => hq w' h2)]
  · intro w k hw ih S hI hq
    have o := hI.o h0
    have v5 : ai S (c + 129 + 1) (Int32.toNatClampNeg 5) = M 5 := o.v5.trans (Mc_lo (by decide))
    have e := e_X9_canCome (n := n) o wc (by omega) (w := w) (by rw [Mc_n.2.2.2.2.2]; exact hw) (nI t) y
    have cm := come_Mc h0.w hc (t := t) hw y
    obtain ⟨u, hu⟩ : ∃ u, u = si S 528 (c + 129) (opn (Mc M c0) (Mc M c0 (94 + 2 * w)) y (-1) (cA (Mc M c0))) := ⟨_, rfl⟩
    rw [← hu] at e
    have ku : KP c S u := by rw [hu]; exact KP.si (by unfold kf; omega)
    have au : ∀ q, ai u q = ai S q := fun q => by rw [hu]; rfl
    have gu : ∀ f q, f ≠ 528 → gi u f q = gi S f q := fun f q hf => by rw [hu]; exact gi_si_f hf
    simp only [f_X9_allCanCome_L2, o.1, obs, o.2.1, mg5, v5, h0.w.f5 hw, if_false, e, bds]
    by_cases d : cmr M w (opw M (cnt (ab0 M y) c0 (cS M)) w (cA M)) t
    · rw [ifb1 (cm.mpr d), lts, nI_1]
      obtain ⟨S1, e1, e2, e3, e4⟩ := ih u (hI.kp ku (au _)) (fun w' hw' => by
        by_cases q : w' = w
        · subst q; exact d
        · exact hq w' (by omega))
      exact ⟨S1, e1, ku.tr e2, fun q => (e3 q).trans (au q), fun f q hf => (e4 f q hf).trans (gu f q hf)⟩
    · rw [ifb0 (fun q => d (cm.mp q))]
      refine ⟨u, ?_, ku, au, gu⟩
      rw [b2i_f (show ¬ CC0 M 0 (cW M) t (cnt (ab0 M y) c0 (cS M)) from fun q => d (q w (Nat.zero_le _) hw))]
def AX (M : Nat → Int32) (X : Int32) (fw bw : Nat) : Prop := (X = nI fw ∧ bw = fw + 1 ∧ fw < cW M) ∨ (X = -1 ∧ fw = 0 ∧ bw = cW M)
theorem e_X9_courtingsTo (h : Inv E c S x M) (hn : 100000 ≤ n) {X : Int32} {fw bw t : Nat} (hX : AX M X fw bw) (y : Int32) : ∃ S', f_X9_courtingsTo E n S (c + 129) X (nI t) y = some ((), S') ∧ KP c S S' ∧ MB c M (enm M (fun c1 => CC0 M fw bw t (cnt (ab0 M y) c1 (cS M))) (cS M) 0 (fun _ => 0) B00) S' := by
  have hW := h.w.lW
  have k1 : KP c S (si S 539 (c + 129) 0) := KP.si (by unfold kf; omega)
  have h1 := h.kp k1
  obtain ⟨S2, b1, b2, b3⟩ := e_X9_begins (n := n) h1 (by omega)
  have g2 : gi S2 539 (c + 129) = 0 := (b3 _ _).trans gi_si_eq
  have st : f_X9_courtingsTo E n S (c + 129) X (nI t) y = f_X9_courtingsTo_L9 E n n S2 (c + 129) X (nI t) y := by
    simp only [f_X9_courtingsTo, lts, b1, bds]
  rw [st]
  rcases hX with ⟨e1, e2, e3⟩ | ⟨e1, e2, e3⟩
  · subst e1; subst e2
    obtain ⟨S3, m1, m2, m3⟩ := mod_search (n := n) (LP := fun m S => f_X9_courtingsTo_L9 E n m S (c + 129) (nI fw) (nI t) y) h1 (by omega) (fun m S => by
      simp only [f_X9_courtingsTo_L9]
      rw [if_neg (nIm1 (show fw < 2 ^ 31 by omega))]
      rfl) (tso_one h1 (by omega) e3 y) b2 g2 (m := n) hn
    exact ⟨S3, m1, k1.tr m2, m3⟩
  · subst e1; subst e2; subst e3
    obtain ⟨S3, m1, m2, m3⟩ := mod_search (n := n) (LP := fun m S => f_X9_courtingsTo_L9 E n m S (c + 129) (-1) (nI t) y) h1 (by omega) (fun m S => by
      simp only [f_X9_courtingsTo_L9]
      rw [if_pos True.intro]
      rfl) (tso_all h1 (by omega) y) b2 g2 (m := n) hn
    exact ⟨S3, m1, k1.tr m2, m3⟩
/-- both searches -/
theorem both_come (h : Inv E c S x M) (hn : 100000 ≤ n) (hK : eK E (c + 58) = 0) {X : Int32} {fw bw t : Nat} (hX : AX M X fw bw) (ht : t < cP M) (y : Int32) : ∃ S1 S2 B, f_X8_searchComing E n S c (nI fw) (nI bw) (nI t) y = some ((), S1) ∧ KP c S S1 ∧ Inv E c S1 x M ∧ CBr c M B S1 ∧ f_X9_courtingsTo E n S1 (c + 129) X (nI t) y = some ((), S2) ∧ KP c S1 S2 ∧ Inv E c S2 x M ∧ MB c M B S2 ∧ bT B < 2 ^ 30 := by
  have hS := h.w.lS
  have p7 : 5 ^ (cS M) ≤ 5 ^ 7 := Nat.pow_le_pow_right (by decide) hS
  have e7 : (5 : Nat) ^ 7 = 78125 := by decide
  have hfb : fw ≤ bw ∧ bw ≤ cW M := by
    rcases hX with ⟨-, q1, q2⟩ | ⟨-, q1, q2⟩ <;> omega
  obtain ⟨Sa, a1, a2, a3⟩ := e_X0_aimAt (n := n) (t := t) (y := y) h (by omega) hfb.1 hfb.2
  have ha := h.kp a2
  obtain ⟨S1, s1, s2, s3⟩ := e_X5_seek (n := n) ha (by omega) (jc0 h.w (by omega) hK hfb.1 hfb.2 ht) a3
  have h1 := ha.kp s2
  obtain ⟨S2, m1, m2, m3⟩ := e_X9_courtingsTo (n := n) h1 hn hX (t := t) y
  have g8 : gr S 458 c = some (c + 58) := h.s.g 458 0 58 (by decide)
  have g7 : gr Sa 457 c = some (c + 50) := ha.s.g 457 0 50 (by decide)
  have g8' : gr Sa 458 c = some (c + 58) := ha.s.g 458 0 58 (by decide)
  have tot := enm_tot (M := M) (C := fun c1 => CC0 M fw bw t (cnt (ab0 M y) c1 (cS M))) (cS M) 0 (fun _ => 0) B00
  refine ⟨S1, S2, _, ?_, a2.tr s2, h1, s3, m1, m2, h1.kp m2, m3, Nat.lt_of_le_of_lt tot (by show 0 + _ < _; omega)⟩
  simp only [f_X8_searchComing, g8, h.n0, obs, a1, bds, g7, ha.n0, g8', s1]
theorem cb457 (h : Inv E c S x M) : gr S 457 c = some (c + 50) := h.s.g 457 0 50 (by decide)
theorem bT0 {T : Nat} (h : T < 2 ^ 30) : nI T = 0 ↔ T = 0 := by rw [show (0 : Int32) = nI 0 from rfl]; exact nI_eq (by omega) (by decide)
/-- three readings, both ways -/
theorem rd_few {S1 S2 : WS} (a : CBr c M B S1) (b : MB c M B S2) (hT : bT B < 2 ^ 30) {S' : WS} : (if gi S2 539 (c + 129) = 0 then some ((-1 : Int32), S') else some (gi S2 540 (c + 129), S')) = some (gi S1 263 (c + 50), S') := by
  rw [b.1, a.2.1]
  by_cases z : bT B = 0
  · rw [if_pos ((bT0 hT).mpr z), if_pos z]
  · rw [if_neg (fun q => z ((bT0 hT).mp q)), if_neg z, (b.2.1 z).1]
theorem rd_bsy {S1 S2 : WS} (a : CBr c M B S1) (b : MB c M B S2) (hT : bT B < 2 ^ 30) {S' : WS} : (if gi S2 539 (c + 129) = 0 then some ((-1 : Int32), S') else some (gi S2 541 (c + 129), S')) = some (gi S1 264 (c + 50), S') := by
  rw [b.1, a.2.2.1]
  by_cases z : bT B = 0
  · rw [if_pos ((bT0 hT).mpr z), if_pos z]
  · rw [if_neg (fun q => z ((bT0 hT).mp q)), if_neg z, (b.2.1 z).2.1]
theorem rd_wm {S1 S2 : WS} (a : CBr c M B S1) (b : MB c M B S2) (hT : bT B < 2 ^ 30) {s : Nat} (hs : s < cS M) {S' : WS} : (if gi S2 539 (c + 129) = 0 then some ((-1 : Int32), S') else some (ai S2 (c + 129 + 13) s, S')) = some (ai S1 (c + 56) s, S') := by
  rw [b.1, (a.2.2.2 s hs).1]
  by_cases z : bT B = 0
  · rw [if_pos ((bT0 hT).mpr z), if_pos z]
  · rw [if_neg (fun q => z ((bT0 hT).mp q)), if_neg z, ((b.2.1 z).2.2 s hs).1]
theorem op_fewest (h : Inv E c S x M) (hn : 100000 ≤ n) (hK : eK E (c + 58) = 0) (w t y : Int32) : OK E c (f_X8_fewest E n S c w t y) (fun S1 => f_X9_fewest E n S1 (c + 129) w t y) := by
  have hW := h.w.lW
  have hP := h.w.lP
  by_cases c1 : inI w (M 5) ∧ inI t (M 0) ∧ inI y (M 1)
  · obtain ⟨j, hj, rfl⟩ := inI_j h.w.s5 (by omega) c1.1
    obtain ⟨t, ht, rfl⟩ := inI_j h.w.s0 (by omega) c1.2.1
    obtain ⟨S1, S2, B, a1, a2, a3, a4, b1, b2, b3, b4, b5⟩ := both_come (n := n) h hn hK (X := nI j) (fw := j) (bw := j + 1) (Or.inl ⟨rfl, rfl, hj⟩) ht y
    refine OK.k h (v := gi S1 263 (c + 50)) (S1 := S1) (S2 := S2) ?_ a2 ?_ b2
    · simp only [f_X8_fewest, e_X8_knowsWay h, bds, ifb1 c1, nI_1, a1, cb457 a3, obs]
    · simp only [f_X9_fewest, e_X9_isAsked a3.o h.w, bds, ifb1 c1, b1]
      exact rd_few a4 b4 b5
  · exact OK.r h (v := -2) (by simp only [f_X8_fewest, e_X8_knowsWay h, bds, ifb0 c1]) (by simp only [f_X9_fewest, e_X9_isAsked h.o h.w, bds, ifb0 c1])
theorem op_courtings (h : Inv E c S x M) (hn : 100000 ≤ n) (hK : eK E (c + 58) = 0) (w t y : Int32) : OK E c (f_X8_courtings E n S c w t y) (fun S1 => f_X9_courtings E n S1 (c + 129) w t y) := by
  have hW := h.w.lW
  have hP := h.w.lP
  by_cases c1 : inI w (M 5) ∧ inI t (M 0) ∧ inI y (M 1)
  · obtain ⟨j, hj, rfl⟩ := inI_j h.w.s5 (by omega) c1.1
    obtain ⟨t, ht, rfl⟩ := inI_j h.w.s0 (by omega) c1.2.1
    obtain ⟨S1, S2, B, a1, a2, a3, a4, b1, b2, b3, b4, b5⟩ := both_come (n := n) h hn hK (X := nI j) (fw := j) (bw := j + 1) (Or.inl ⟨rfl, rfl, hj⟩) ht y
    refine OK.k h (v := nI (bT B)) (S1 := S1) (S2 := S2) ?_ a2 ?_ b2
    · simp only [f_X8_courtings, e_X8_knowsWay h, bds, ifb1 c1, nI_1, a1, cb457 a3, obs, a4.1]
    · simp only [f_X9_courtings, e_X9_isAsked a3.o h.w, bds, ifb1 c1, b1, b4.1]
  · exact OK.r h (v := -2) (by simp only [f_X8_courtings, e_X8_knowsWay h, bds, ifb0 c1]) (by simp only [f_X9_courtings, e_X9_isAsked h.o h.w, bds, ifb0 c1])
theorem op_busy (h : Inv E c S x M) (hn : 100000 ≤ n) (hK : eK E (c + 58) = 0) (w t y : Int32) : OK E c (f_X8_busy E n S c w t y) (fun S1 => f_X9_busy E n S1 (c + 129) w t y) := by
  have hW := h.w.lW
  have hP := h.w.lP
  by_cases c1 : inI w (M 5) ∧ inI t (M 0) ∧ inI y (M 1)
  · obtain ⟨j, hj, rfl⟩ := inI_j h.w.s5 (by omega) c1.1
    obtain ⟨t, ht, rfl⟩ := inI_j h.w.s0 (by omega) c1.2.1
    obtain ⟨S1, S2, B, a1, a2, a3, a4, b1, b2, b3, b4, b5⟩ := both_come (n := n) h hn hK (X := nI j) (fw := j) (bw := j + 1) (Or.inl ⟨rfl, rfl, hj⟩) ht y
    refine OK.k h (v := gi S1 264 (c + 50)) (S1 := S1) (S2 := S2) ?_ a2 ?_ b2
    · simp only [f_X8_busy, e_X8_knowsWay h, bds, ifb1 c1, nI_1, a1, cb457 a3, obs]
    · simp only [f_X9_busy, e_X9_isAsked a3.o h.w, bds, ifb1 c1, b1]
      exact rd_bsy a4 b4 b5
  · exact OK.r h (v := -2) (by simp only [f_X8_busy, e_X8_knowsWay h, bds, ifb0 c1]) (by simp only [f_X9_busy, e_X9_isAsked h.o h.w, bds, ifb0 c1])
theorem op_whom (h : Inv E c S x M) (hn : 100000 ≤ n) (hK : eK E (c + 58) = 0) (w t y s : Int32) : OK E c (f_X8_whom E n S c w t y s) (fun S1 => f_X9_whom E n S1 (c + 129) w t y s) := by
  have hW := h.w.lW
  have hP := h.w.lP
  have hS := h.w.lS
  by_cases c1 : inI w (M 5) ∧ inI t (M 0) ∧ inI y (M 1)
  · by_cases c2 : inI s (M 4)
    · obtain ⟨j, hj, rfl⟩ := inI_j h.w.s5 (by omega) c1.1
      obtain ⟨t, ht, rfl⟩ := inI_j h.w.s0 (by omega) c1.2.1
      obtain ⟨s, hs, rfl⟩ := inI_j h.w.s4 (by omega) c2
      obtain ⟨S1, S2, B, a1, a2, a3, a4, b1, b2, b3, b4, b5⟩ := both_come (n := n) h hn hK (X := nI j) (fw := j) (bw := j + 1) (Or.inl ⟨rfl, rfl, hj⟩) ht y
      have g542 : gr S2 542 (c + 129) = some (c + 129 + 13) := b3.s.g 542 129 142 (by decide)
      have l142 : eN E (c + 129 + 13) = 7 := h.L.at 142 7 (by omega) (by decide)
      refine OK.k h (v := ai S1 (c + 56) s) (S1 := S1) (S2 := S2) ?_ a2 ?_ b2
      · simp only [f_X8_whom, e_X8_knowsWay h, bds, ifb1 c1, h.n0, obs, e_X3_hasSuitor h.m, ifb1 c2, nI_1, a1, cb457 a3, a3.g265, a3.l56, nI_clamp (show s < 2 ^ 31 by omega), ifn (rinc (show s < 7 by omega) (show 7 < 2 ^ 31 by omega))]
      · simp only [f_X9_whom, e_X9_isAsked a3.o h.w, bds, ifb1 c1, e_X9_isSuitor a3.o h.w, ifb1 c2, b1, g542, obs, l142, nI_clamp (show s < 2 ^ 31 by omega), ifn (rinc (show s < 7 by omega) (show 7 < 2 ^ 31 by omega))]
        exact rd_wm a4 b4 b5 hs
    · exact OK.r h (v := -2) (by simp only [f_X8_whom, e_X8_knowsWay h, bds, ifb1 c1, h.n0, obs, e_X3_hasSuitor h.m, ifb0 c2]) (by simp only [f_X9_whom, e_X9_isAsked h.o h.w, bds, ifb1 c1, e_X9_isSuitor h.o h.w, ifb0 c2])
  · exact OK.r h (v := -2) (by simp only [f_X8_whom, e_X8_knowsWay h, bds, ifb0 c1]) (by simp only [f_X9_whom, e_X9_isAsked h.o h.w, bds, ifb0 c1])
theorem op_all (h : Inv E c S x M) (hn : 100000 ≤ n) (hK : eK E (c + 58) = 0) (t y : Int32) : OK E c (f_X8_all E n S c t y) (fun S1 => f_X9_all E n S1 (c + 129) t y) := by
  have hP := h.w.lP
  by_cases c1 : inI t (M 0)
  · by_cases c2 : inI y (M 1)
    · obtain ⟨t, ht, rfl⟩ := inI_j h.w.s0 (by omega) c1
      obtain ⟨S1, S2, B, a1, a2, a3, a4, b1, b2, b3, b4, b5⟩ := both_come (n := n) h hn hK (X := -1) (fw := 0) (bw := cW M) (Or.inr ⟨rfl, rfl, rfl⟩) ht y
      have a1 : f_X8_searchComing E n S c 0 (nI (cW M)) (nI t) y = some ((), S1) := a1
      refine OK.k h (v := gi S1 263 (c + 50)) (S1 := S1) (S2 := S2) ?_ a2 ?_ b2
      · simp only [f_X8_all, h.n0, obs, e_X3_hasPlace h.m, e_X3_hasYear h.m, bds, ifb1 c1, ifb1 c2, h.m.i134, h.w.s5, a1, cb457 a3]
      · simp only [f_X9_all, e_X9_isPlace a3.o h.w, e_X9_isYear a3.o h.w, bds, ifb1 c1, ifb1 c2, b1]
        exact rd_few a4 b4 b5
    · exact OK.r h (v := -2) (by simp only [f_X8_all, h.n0, obs, e_X3_hasPlace h.m, e_X3_hasYear h.m, bds, ifb1 c1, ifb0 c2]) (by simp only [f_X9_all, e_X9_isPlace h.o h.w, e_X9_isYear h.o h.w, bds, ifb1 c1, ifb0 c2])
  · exact OK.r h (v := -2) (by simp only [f_X8_all, h.n0, obs, e_X3_hasPlace h.m, bds, ifb0 c1]) (by simp only [f_X9_all, e_X9_isPlace h.o h.w, bds, ifb0 c1])
end CTO
