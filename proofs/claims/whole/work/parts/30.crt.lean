/-! Courting changed; hopes by the model; dry, count, court -/
theorem WF_crt {M : Nat → Int32} (hw : WF M) {s : Nat} {v : Int32} (hs : s < 7) (hv : v = -1 ∨ ∃ b f : Nat, s < cS M ∧ b < cB M ∧ v = nI b ∧ M (75 + 3 * s) = nI f ∧ f.testBit b = true) : WF (upd M (102 + s) v) := by
  have e : ∀ i, i < 102 → upd M (102 + s) v i = M i := fun i hi => pk_un (by omega)
  have e0 : cP (upd M (102 + s) v) = cP M := cE (e 0 (by omega))
  have e1 : cY (upd M (102 + s) v) = cY M := cE (e 1 (by omega))
  have e2 : cA (upd M (102 + s) v) = cA M := cE (e 2 (by omega))
  have e3 : cB (upd M (102 + s) v) = cB M := cE (e 3 (by omega))
  have e4 : cS (upd M (102 + s) v) = cS M := cE (e 4 (by omega))
  have e5 : cW (upd M (102 + s) v) = cW M := cE (e 5 (by omega))
  obtain ⟨w1, w2, w3, w4, w5, w6, w7, w8, w9, w10, w11, w12, w13⟩ := hw
  unfold WF
  rw [e0, e1, e2, e3, e4, e5, e 0 (by omega), e 1 (by omega), e 2 (by omega), e 3 (by omega), e 4 (by omega), e 5 (by omega), e 6 (by omega)]
  refine ⟨w1, w2, w3, w4, ?_, ?_, ?_, ?_, ?_, ?_, ?_, ?_, w13⟩
  · intro p hp; rw [e (7 + p) (by omega)]; exact w5 p hp
  · intro p hp; rw [e (15 + p) (by omega)]; exact w6 p hp
  · intro p hp; have := w2.2.2.1; rw [e (45 + 2 * p) (by omega), e (46 + 2 * p) (by omega)]; exact w7 p hp
  · intro p q hp hq; have := w2.2.2.1
    rw [e (45 + 2 * p) (by omega), e (46 + 2 * p) (by omega), e (45 + 2 * q) (by omega), e (46 + 2 * q) (by omega)]; exact w8 p q hp hq
  · intro p hp; have := w2.2.2.2.1; rw [e (65 + 2 * p) (by omega), e (66 + 2 * p) (by omega)]; exact w9 p hp
  · intro p hp; have := w2.2.2.2.2.1; rw [e (73 + 3 * p) (by omega), e (74 + 3 * p) (by omega), e (75 + 3 * p) (by omega)]; exact w10 p hp
  · intro p hp; have := w2.2.2.2.2.2; rw [e (94 + 2 * p) (by omega), e (95 + 2 * p) (by omega)]; exact w11 p hp
  · intro p hp
    rw [e (75 + 3 * p) (by omega)]
    by_cases q : p = s
    · subst q; rw [pk_us]; exact Or.inr hv
    · rw [pk_un (show 102 + p ≠ 102 + s by omega)]; exact w12 p hp
theorem forI_ok {M : Nat → Int32} (hw : WF M) {s b : Nat} (hs : s < cS M) (hb : b < cB M) (h : forI M (nI s) (nI b)) : ∃ b' f : Nat, s < cS M ∧ b' < cB M ∧ nI b = nI b' ∧ M (75 + 3 * s) = nI f ∧ f.testBit b' = true := by
  have hB := hw.lB
  obtain ⟨k, q, f, -, -, -, hf, -, -, ef⟩ := hw.2.2.2.2.2.2.2.2.2.1 s hs
  have h := (forI_iff hw hs hb).mp h
  have h2 : 2 ^ cB M ≤ 2 ^ 4 := Nat.pow_le_pow_right (by decide) hB
  rw [ef, bitI (by omega) (by omega)] at h
  exact ⟨b, f, hs, hb, rfl, ef, h⟩
theorem RMt.fr {E : EN} {S S' : WS} {a : Nat} {M : Nat → Int32} (h : RMt E S a M) (hg : ∀ f, gr S' f a = gr S f a) (ef : ∀ f, 128 ≤ f → f ≤ 134 → gi S' f a = gi S f a) (ea : ∀ j, 1 ≤ j → j ≤ 12 → ai S' (a + j) = ai S (a + j)) : RMt E S' a M := by
  obtain ⟨⟨g, l⟩, ⟨i1, i2, i3, i4, i5, i6, i7⟩, a1, a2, a3, a4, a5, a6, a7⟩ := h
  refine ⟨⟨fun j hj => (hg _).trans (g j hj), l⟩, ⟨?_, ?_, ?_, ?_, ?_, ?_, ?_⟩, ?_, ?_, ?_, ?_, ?_, ?_, ?_⟩
  · rw [ef 128 (by omega) (by omega)]; exact i1
  · rw [ef 129 (by omega) (by omega)]; exact i2
  · rw [ef 130 (by omega) (by omega)]; exact i3
  · rw [ef 131 (by omega) (by omega)]; exact i4
  · rw [ef 132 (by omega) (by omega)]; exact i5
  · rw [ef 133 (by omega) (by omega)]; exact i6
  · rw [ef 134 (by omega) (by omega)]; exact i7
  · rw [ea 1 (by omega) (by omega)]; exact a1
  · rw [ea 2 (by omega) (by omega), ea 3 (by omega) (by omega)]; exact a2
  · rw [ea 4 (by omega) (by omega), ea 5 (by omega) (by omega)]; exact a3
  · rw [ea 6 (by omega) (by omega), ea 7 (by omega) (by omega), ea 8 (by omega) (by omega)]; exact a4
  · rw [ea 9 (by omega) (by omega)]; exact a5
  · rw [ea 10 (by omega) (by omega)]; exact a6
  · rw [ea 11 (by omega) (by omega), ea 12 (by omega) (by omega)]; exact a7
theorem RMt.crt {E : EN} {S : WS} {a : Nat} {M : Nat → Int32} (h : RMt E S a M) (hw : WF M) {s : Nat} {v : Int32} (hs : s < 7) : RMt E (wi S (a + 9) (upd (ai S (a + 9)) s v)) a (upd M (102 + s) v) := by
  have e : ∀ i, i < 102 → upd M (102 + s) v i = M i := fun i hi => pk_un (by omega)
  have e2 : cA (upd M (102 + s) v) = cA M := cE (e 2 (by omega))
  have e3 : cB (upd M (102 + s) v) = cB M := cE (e 3 (by omega))
  have e4 : cS (upd M (102 + s) v) = cS M := cE (e 4 (by omega))
  have e5 : cW (upd M (102 + s) v) = cW M := cE (e 5 (by omega))
  have ea : ∀ j, j ≠ 9 → ai (wi S (a + 9) (upd (ai S (a + 9)) s v)) (a + j) = ai S (a + j) := fun j hj => ai_wi_a (by omega)
  have wA := hw.lA
  have wB := hw.lB
  have wS := hw.lS
  have wW := hw.lW
  obtain ⟨⟨g, l⟩, ⟨i1, i2, i3, i4, i5, i6, i7⟩, a1, a2, a3, a4, a5, a6, a7⟩ := h
  refine ⟨⟨g, l⟩, ⟨?_, ?_, ?_, ?_, ?_, ?_, ?_⟩, ?_, ?_, ?_, ?_, ?_, ?_, ?_⟩
  · rw [e 6 (by omega)]; exact i1
  · rw [e 0 (by omega)]; exact i2
  · rw [e 1 (by omega)]; exact i3
  · rw [e 2 (by omega)]; exact i4
  · rw [e 3 (by omega)]; exact i5
  · rw [e 4 (by omega)]; exact i6
  · rw [e 5 (by omega)]; exact i7
  · intro p hp; rw [ea 1 (by omega), e _ (by omega)]; exact a1 p hp
  · intro p hp; rw [e2] at hp; rw [ea 2 (by omega), ea 3 (by omega), e _ (by omega), e _ (by omega)]; exact a2 p hp
  · intro p hp; rw [e3] at hp; rw [ea 4 (by omega), ea 5 (by omega), e _ (by omega), e _ (by omega)]; exact a3 p hp
  · intro p hp; rw [e4] at hp; rw [ea 6 (by omega), ea 7 (by omega), ea 8 (by omega), e _ (by omega), e _ (by omega), e _ (by omega)]; exact a4 p hp
  · intro p hp; rw [ai_wi]
    by_cases q : p = s
    · subst q; rw [pk_us, pk_us]
    · rw [pk_un q, pk_un (show 102 + p ≠ 102 + s by omega)]; exact a5 p hp
  · intro p hp; rw [ea 10 (by omega), e _ (by omega)]; exact a6 p hp
  · intro p hp; rw [e5] at hp; rw [ea 11 (by omega), ea 12 (by omega), e _ (by omega), e _ (by omega)]; exact a7 p hp
theorem RWl.row {E : EN} {S : WS} {m : Nat} {M N : Nat → Int32} {lo : Int32} (h : RWl E S m M lo) {g : Nat → Int32} (hg : ∀ i, i < 109 → g i = N i) : RWl E (wi S (m + 1) g) m N lo := ⟨h.1, h.2.1, fun i hi => by rw [ai_wi]; exact hg i hi, h.2.2.2⟩
theorem RWl.crt {E : EN} {S : WS} {m : Nat} {M : Nat → Int32} {lo : Int32} (h : RWl E S m M lo) {k : Nat} {v : Int32} : RWl E (wi S (m + 1) (upd (ai S (m + 1)) k v)) m (upd M k v) lo := h.row (fun i hi => by
  by_cases q : i = k
  · subst q; rw [pk_us, pk_us]
  · rw [pk_un q, pk_un q]; exact h.2.2.1 i hi)
theorem wi_wi {S : WS} {a : Nat} {g g2 : Nat → Int32} : wi (wi S a g) a g2 = wi S a g2 := by
  unfold wi u1
  simp only [Prod.mk.injEq, and_true, true_and]
  funext b
  by_cases c : b = a <;> simp [c]
theorem wi_self {S : WS} {a : Nat} {g : Nat → Int32} (h : g = ai S a) : wi S a g = S := by
  subst h
  unfold wi u1 ai
  obtain ⟨s1, s2, s3, s4, s5, s6⟩ := S
  simp only [Prod.mk.injEq, and_true, true_and]
  funext b
  by_cases c : b = a <;> simp [c]
theorem Inv.crt {E : EN} {c : Nat} {S : WS} {x : Nat} {M : Nat → Int32} (h : Inv E c S x M) {s : Nat} {v : Int32} (hs : s < 7) (hv : v = -1 ∨ ∃ b f : Nat, s < cS M ∧ b < cB M ∧ v = nI b ∧ M (75 + 3 * s) = nI f ∧ f.testBit b = true) : Inv E c (wi (wi S (c + x + 9) (upd (ai S (c + x + 9)) s v)) (c + 130) (upd (ai S (c + 130)) (102 + s) v)) x (upd M (102 + s) v) := by
  have hx : x = 4 ∨ x = 17 := h.2.2.1.1
  have ea : ∀ b, b ≠ c + x + 9 → b ≠ c + 130 → ai (wi (wi S (c + x + 9) (upd (ai S (c + x + 9)) s v)) (c + 130) (upd (ai S (c + 130)) (102 + s) v)) b = ai S b := fun b h1 h2 => (ai_wi_a h2).trans (ai_wi_a h1)
  obtain ⟨h1, h2, h3, h6, h7, h8, ⟨h9, h12⟩, h13, h15, h16⟩ := h
  refine ⟨h1, h2, h3, WF_crt h6 hs hv, ?_, ?_, ⟨h9, ?_⟩, h13, ?_, ?_⟩
  · exact RMt.fr (h7.crt h6 hs) (fun _ => rfl) (fun _ _ _ => rfl) (fun j h1 h2 => ai_wi_a (by omega))
  · have e : RWl E (wi S (c + x + 9) (upd (ai S (c + x + 9)) s v)) (c + 129) M (-1) := ⟨h8.1, h8.2.1, fun i hi => by rw [ai_wi_a (by omega)]; exact h8.2.2.1 i hi, h8.2.2.2⟩
    refine RWl.row e (fun i hi => ?_)
    by_cases q : i = 102 + s
    · subst q; rw [pk_us, pk_us]
    · rw [pk_un q, pk_un q]; exact h8.2.2.1 i hi
  · rw [ea (c + 1) (by omega) (by omega), ea (c + 133) (by omega) (by omega)]; exact h12
  · intro k hk
    have q := h15 k hk
    unfold IMG at q ⊢
    rw [ea (c + 31) (by omega) (by omega), ea (c + 132) (by omega) (by omega), ea (c + 131) (by omega) (by omega)]
    refine ⟨q.1, q.2.1, fun q2 => ?_⟩
    obtain ⟨N, a, b, d⟩ := q.2.2 q2
    exact ⟨N, a, RMt.fr b (fun _ => rfl) (fun _ _ _ => rfl) (fun j h1 h2 => ea _ (by omega) (by omega)), d⟩
  · intro k hk
    have q := h16 k hk
    unfold SLT at q ⊢
    rw [ea (c + 146) (by omega) (by omega), ea (c + 145) (by omega) (by omega)]
    exact q
section CRT
variable {E : EN} {n c : Nat} {S : WS} {x : Nat} {M : Nat → Int32}
theorem op_court (h : Inv E c S x M) (s b : Int32) : OK E c (f_X8_court E n S c s b) (fun S1 => f_X9_court E n S1 (c + 129) s b) := by
  have hS := h.w.lS
  have hB := h.w.lB
  have hx : x = 4 ∨ x = 17 := h.2.2.1.1
  by_cases c1 : inI s (M 4)
  · obtain ⟨j, hj, rfl⟩ := inI_j h.w.s4 (by omega) c1
    have hW : ∀ g, RWl E (wi S (c + x + 9) g) (c + 129) M (-1) := fun g => ⟨h.o.1, h.o.2.1, fun i hi => by rw [ai_wi_a (by omega)]; exact h.o.2.2.1 i hi, h.o.2.2.2⟩
    by_cases c2 : b = -1
    · subst c2
      refine ⟨M (102 + j), wi S (c + x + 9) (upd (ai S (c + x + 9)) j (-1)), _, x, _, ?_, ?_, h.crt (s := j) (v := -1) (by omega) (Or.inl rfl)⟩
      · simp only [f_X8_court, h.n0, obs, e_X3_hasSuitor h.m, bds, ifb1 c1, if_true, h.m.g143, h.m.n9, nI_clamp (show j < 2 ^ 31 by omega), ifn (rinc (show j < 7 by omega) (show 7 < 2 ^ 31 by omega)), lts, h.m.hc j (by omega)]
      · have g : gr (wi S (c + x + 9) (upd (ai S (c + x + 9)) j (-1))) 513 (c + 129) = some (c + 129 + 1) := h.o.1
        simp only [f_X9_court, e_X9_isSuitor (hW _) h.w, bds, ifb1 c1, if_true, e_X9_courts (hW _) (show j < 7 by omega), g, obs, h.o.2.1, ixC, nI_clamp (show 102 + j < 2 ^ 31 by omega), ifn (rinc (show 102 + j < 109 by omega) (show 109 < 2 ^ 31 by omega)), lts]
        rw [ai_wi_a (by omega)]
    · by_cases c3 : forI M (nI j) b
      · obtain ⟨b, hb, rfl⟩ := inI_j h.w.s3 (by omega) c3.2.1
        have c4 : inI (nI b) (M 3) := c3.2.1
        have c5 := (forI_iff h.w hj hb).mp c3
        refine ⟨M (102 + j), wi S (c + x + 9) (upd (ai S (c + x + 9)) j (nI b)), _, x, _, ?_, ?_, h.crt (s := j) (v := nI b) (by omega) (Or.inr (forI_ok h.w hj hb c3))⟩
        · simp only [f_X8_court, h.n0, obs, e_X3_hasSuitor h.m, e_X3_isFor h.m h.w, bds, ifb1 c1, ifb1 c3, if_neg c2, h.m.g143, h.m.n9, nI_clamp (show j < 2 ^ 31 by omega), ifn (rinc (show j < 7 by omega) (show 7 < 2 ^ 31 by omega)), lts, h.m.hc j (by omega)]
        · have g : gr (wi S (c + x + 9) (upd (ai S (c + x + 9)) j (nI b))) 513 (c + 129) = some (c + 129 + 1) := h.o.1
          simp only [f_X9_court, e_X9_isSuitor (hW _) h.w, e_X9_isBride (hW _) h.w, e_X9_isFor (hW _) (show j < 7 by omega), bds, ifb1 c1, ifb1 c4, ifb1 c5, if_neg c2, e_X9_courts (hW _) (show j < 7 by omega), g, obs, h.o.2.1, ixC, nI_clamp (show 102 + j < 2 ^ 31 by omega), ifn (rinc (show 102 + j < 109 by omega) (show 109 < 2 ^ 31 by omega)), lts]
          rw [ai_wi_a (by omega)]
      · refine OK.r h (v := -2) (by simp only [f_X8_court, h.n0, obs, e_X3_hasSuitor h.m, e_X3_isFor h.m h.w, bds, ifb1 c1, ifb0 c3, if_neg c2]) ?_
        simp only [f_X9_court, e_X9_isSuitor h.o h.w, e_X9_isBride h.o h.w, e_X9_isFor h.o (show j < 7 by omega), bds, ifb1 c1, if_neg c2]
        by_cases c4 : inI b (M 3)
        · obtain ⟨b, hb, rfl⟩ := inI_j h.w.s3 (by omega) c4
          rw [ifb1 c4, ifb0 (fun q => c3 ((forI_iff h.w hj hb).mpr q))]
        · rw [ifb0 c4]
  · exact OK.r h (v := -2) (by simp only [f_X8_court, h.n0, obs, e_X3_hasSuitor h.m, bds, ifb0 c1]) (by simp only [f_X9_court, e_X9_isSuitor h.o h.w, bds, ifb0 c1])
/-- the best year for a path, of the first so many and one -/
def dri (M : Nat → Int32) (p : Int32) : Nat → Nat
  | 0 => 0
  | y + 1 => if saf M p (dri M p y) 100000000000000 (cS M) < saf M p (y + 1) 100000000000000 (cS M) then y + 1 else dri M p y
theorem dri_le (M : Nat → Int32) (p : Int32) : ∀ y, dri M p y ≤ y := by
  intro y
  induction y with
  | zero => exact Nat.le_refl _
  | succ y ih =>
    rw [dri]
    by_cases c : saf M p (dri M p y) 100000000000000 (cS M) < saf M p (y + 1) 100000000000000 (cS M)
    · rw [if_pos c]; omega
    · rw [if_neg c]; omega
theorem op_dry (h : Inv E c S x M) (hn : 40 ≤ n) (p : Int32) : OK E c (f_X8_dry E n S c p) (fun S1 => f_X9_dry E n S1 (c + 129) p) := by
  have hA := h.w.lA
  have hY := h.w.lY
  have hP := h.w.lP
  by_cases c1 : inI p (M 2)
  · obtain ⟨j, hj, e⟩ := inI_j h.w.s2 (by omega) c1
    have hY1 : 1 ≤ cY M := by
      rcases Nat.eq_zero_or_pos (cP M) with q | q
      · have := (h.w.2.2.1 q).2.1; omega
      · exact (h.w.2.2.2.1 q).2
    refine OK.r h (v := nI (dri M p (cY M - 1))) ?_ ?_
    · simp only [f_X8_dry, h.n0, obs, e_X3_hasPath h.m, bds, ifb1 c1]
      obtain ⟨n, rfl⟩ : ∃ q, n = q + 1 := ⟨n - 1, by omega⟩
      simp only [f_X8_dry_L23, h.n0, obs, h.m.i130]
      obtain ⟨k, hk, ek⟩ := saf_nat h.w p (show 0 < 30 by omega) (Nat.le_refl 100000000000000) (cS M) (Nat.le_refl _)
      rw [if_neg (show ¬ M 1 ≤ 0 from h.w.f1 (s := 0) (by omega)), show (0 : Int32) = nI 0 from rfl, e_X3_safeAlong h.m h.w (show 8 ≤ n + 1 by omega) p (show 0 < 30 by omega), bds, if_neg, lts]
      · refine lp (N := cY M) (P := fun s k => 1 ≤ s → f_X8_dry_L23 E (n + 1) k S c p (nI (dri M p (s - 1))) (saf M p (dri M p (s - 1)) 100000000000000 (cS M)) (nI s) = some (nI (dri M p (cY M - 1)), S)) ?_ ?_ (cY M - 1) 1 n (by omega) (by omega) (by omega)
        · intro k _
          simp only [f_X8_dry_L23, h.n0, obs, h.m.i130, h.w.t1, if_true]
        · intro s k hs ih h1
          have ih := ih (by omega)
          obtain ⟨s, rfl⟩ : ∃ q, s = q + 1 := ⟨s - 1, by omega⟩
          simp only [f_X8_dry_L23, h.n0, obs, h.m.i130, h.w.f1 hs, if_false, e_X3_safeAlong h.m h.w (show 8 ≤ n + 1 by omega) p (show s + 1 < 30 by omega), bds, lts, nI_1, lcm_le0]
          rw [show s + 1 + 1 - 1 = s + 1 by omega, dri] at ih
          rw [show s + 1 - 1 = s by omega]
          by_cases d : saf M p (dri M p s) 100000000000000 (cS M) < saf M p (s + 1) 100000000000000 (cS M)
          · rw [if_pos d] at ih
            rw [if_neg (fun q => q d)]; exact ih
          · rw [if_neg d] at ih
            rw [if_pos d]; exact ih
      · intro q
        refine lcm_le0.mp q ?_
        rw [show (100000000000000 : Int64) = lN 100000000000000 from rfl, ek, fa_lt64, pk_lT (by omega), show (-1 : Int64).toInt = -1 by decide]
        omega
    · simp only [f_X9_dry, e_X9_isPath h.o h.w, bds, ifb1 c1]
      refine lp (N := cY M) (P := fun s k => 1 ≤ s → f_X9_dry_L16 E n k S (c + 129) p (nI (dri M p (s - 1))) (nI s) = some (nI (dri M p (cY M - 1)), S)) ?_ ?_ (cY M - 1) 1 n (by omega) (by omega) (by omega)
      · intro k _
        simp only [f_X9_dry_L16, h.o.1, obs, h.o.2.1, mg1, h.o.v1, h.w.t1, if_true]
      · intro s k hs ih h1
        have ih := ih (by omega)
        obtain ⟨s, rfl⟩ : ∃ q, s = q + 1 := ⟨s - 1, by omega⟩
        have hd := dri_le M p s
        simp only [f_X9_dry_L16, h.o.1, obs, h.o.2.1, mg1, h.o.v1, h.w.f1 hs, if_false, Nat.add_sub_cancel, e_X9_safeBy h.o h.w (show 8 ≤ n by omega) p (show s + 1 < 30 by omega), e_X9_safeBy h.o h.w (show 8 ≤ n by omega) p (show dri M p s < 30 by omega), bds, lts, nI_1, lcm_le0]
        rw [show s + 1 + 1 - 1 = s + 1 by omega, dri] at ih
        by_cases d : saf M p (dri M p s) 100000000000000 (cS M) < saf M p (s + 1) 100000000000000 (cS M)
        · rw [if_pos d] at ih
          rw [if_neg (fun q => q d)]; exact ih
        · rw [if_neg d] at ih
          rw [if_pos d]; exact ih
  · exact OK.r h (v := -2) (by simp only [f_X8_dry, h.n0, obs, e_X3_hasPath h.m, bds, ifb0 c1]) (by simp only [f_X9_dry, e_X9_isPath h.o h.w, bds, ifb0 c1])
end CRT
