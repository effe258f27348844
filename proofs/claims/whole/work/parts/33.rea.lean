/-! Calls over where one comes: when, high, parts, cuts, vain, more -/
theorem itr_sub {M : Nat → Int32} (hw : WF M) (o : Int32) {v : Nat} (hv : v < 2 ^ cP M) : ∀ k, ∃ w, w < 2 ^ cP M ∧ itr M o (nI v) k = nI w ∧ bsub v w := by
  intro k
  induction k with
  | zero => exact ⟨v, hv, rfl, fun _ q => q⟩
  | succ k ih =>
    obtain ⟨w, a, b, d⟩ := ih
    obtain ⟨z, e, f, g⟩ := rnd_nat hw o a (cA M) (Nat.le_refl _)
    exact ⟨z, e, by rw [itr, b, g], fun j q => f j (d j q)⟩
/-- where one comes, as a number: home is in it -/
theorem rch_nat {M : Nat → Int32} (hw : WF M) (o : Int32) {j : Nat} (hj : j < cP M) : ∃ w, w < 2 ^ cP M ∧ rch M o (nI j) = nI w ∧ w.testBit j = true := by
  have hP := hw.lP
  obtain ⟨w, a, b, d⟩ := itr_sub hw o (v := 2 ^ j) (Nat.pow_lt_pow_right (by decide) hj) 8
  refine ⟨w, a, ?_, d j Nat.testBit_two_pow_self⟩
  rw [rch, shl1 j (by omega)]; exact b
theorem WF.walk {M : Nat → Int32} (hw : WF M) {w : Nat} (hk : w < cW M) : ∃ l a : Nat, l ≤ 99 ∧ a < cP M ∧ M (94 + 2 * w) = nI l ∧ M (95 + 2 * w) = nI a := hw.2.2.2.2.2.2.2.2.2.2.1 w hk
noncomputable def whn (P : Nat → Prop) (z : Int32) : Nat → Nat → Int32 → Int32 → Nat → Int32
  | 0, _, a, b, t => if z = 2 then nI t else if z = 0 then a else b
  | k + 1, s, a, b, t => @ite _ (P s) (Classical.propDecidable _) (if t = 0 then whn P z k (s + 1) (nI s) (nI s) (t + 1) else whn P z k (s + 1) a (nI s) (t + 1)) (whn P z k (s + 1) a b t)
section REA
variable {E : EN} {n c : Nat} {S : WS} {x : Nat} {M : Nat → Int32}
theorem e_X8_canCome (h : Inv E c S x M) (hn : 11 ≤ n) {w : Nat} (hk : w < cW M) (t y : Int32) : f_X8_canCome E n S c (nI w) t y = some (b2i ((rea M w y (-1) >>> (t &&& 31)) &&& 1 = 1), S) := by
  simp only [f_X8_canCome, h.n0, obs, e_X3_reachOf h.m h.w hn hk, bds]
  by_cases d : (rea M w y (-1) >>> (t &&& 31)) &&& 1 = 1
  · rw [if_pos d, b2i_t d]
  · rw [if_neg d, b2i_f d]
theorem op_when (h : Inv E c S x M) (hn : 40 ≤ n) (w t z : Int32) : OK E c (f_X8_when E n S c w t z) (fun S1 => f_X9_when E n S1 (c + 129) w t z) := by
  have hW := h.w.lW
  have hY := h.w.lY
  by_cases c1 : inI w (M 5)
  · by_cases c2 : inI t (M 0)
    · by_cases c3 : inI z (nI 3)
      · obtain ⟨j, hj, rfl⟩ := inI_j h.w.s5 (by omega) c1
        have cl : f_X8_when_L46 E n n S c (nI j) t z (-1) (-1) 0 0 = some (whn (fun s => (rea M j (nI s) (-1) >>> (t &&& 31)) &&& 1 = 1) z (cY M) 0 (-1) (-1) 0, S) := by
          refine lp (N := cY M) (P := fun s k => ∀ (a b : Int32) (q : Nat), q ≤ s → (a = -1 ↔ q = 0) → f_X8_when_L46 E n k S c (nI j) t z a b (nI q) (nI s) = some (whn (fun s => (rea M j (nI s) (-1) >>> (t &&& 31)) &&& 1 = 1) z (cY M - s) s a b q, S)) ?_ ?_ (cY M) 0 n (by omega) (by omega) (-1) (-1) 0 (Nat.le_refl 0) ⟨fun _ => rfl, fun _ => rfl⟩
          · intro k a b q hq hab
            simp only [f_X8_when_L46, h.n0, obs, h.m.i130, h.w.t1, if_true, Nat.sub_self, whn]
            by_cases z2 : z = 2
            · rw [if_pos z2, if_pos z2]
            · rw [if_neg z2, if_neg z2]
              by_cases z0 : z = 0
              · rw [if_pos z0, if_pos z0]
              · rw [if_neg z0, if_neg z0]
          · intro s k hs ih a b q hq hab
            simp only [f_X8_when_L46, h.n0, obs, h.m.i130, h.w.f1 hs, if_false, e_X8_canCome h (show 11 ≤ n by omega) hj, bds, lts, nI_1, b2i_eq0]
            rw [show cY M - s = (cY M - (s + 1)) + 1 by omega, whn]
            by_cases d : (rea M j (nI s) (-1) >>> (t &&& 31)) &&& 1 = 1
            · rw [if_neg (fun q => q d), if_pos d]
              by_cases e : q = 0
              · subst e
                rw [if_pos (show nI 0 = 0 from rfl), if_pos rfl]
                exact ih (nI s) (nI s) (0 + 1) (by omega) ⟨fun r => absurd r (nIm1 (by omega)), fun r => by omega⟩
              · rw [if_neg (nI_ne0 (by omega) (by omega)), if_neg e]
                exact ih a (nI s) (q + 1) (by omega) ⟨fun r => absurd (hab.mp r) e, fun r => by omega⟩
            · rw [if_pos d, if_neg d]; exact ih a b q (by omega) hab
        have md : ∃ S2, f_X9_when_L43 E n n S (c + 129) (nI j) t z (-1) (-1) 0 0 = some (whn (fun s => (rea M j (nI s) (-1) >>> (t &&& 31)) &&& 1 = 1) z (cY M) 0 (-1) (-1) 0, S2) ∧ KP c S S2 := by
          refine lp (N := cY M) (P := fun s k => ∀ (S : WS) (a b : Int32) (q : Nat), Inv E c S x M → q ≤ s → (a = -1 ↔ q = 0) → ∃ S2, f_X9_when_L43 E n k S (c + 129) (nI j) t z a b (nI q) (nI s) = some (whn (fun s => (rea M j (nI s) (-1) >>> (t &&& 31)) &&& 1 = 1) z (cY M - s) s a b q, S2) ∧ KP c S S2) ?_ ?_ (cY M) 0 n (by omega) (by omega) S (-1) (-1) 0 h (Nat.le_refl 0) ⟨fun _ => rfl, fun _ => rfl⟩
          · intro k S a b q h hq hab
            refine ⟨S, ?_, KP.rf⟩
            simp only [f_X9_when_L43, h.o.1, obs, h.o.2.1, mg1, h.o.v1, h.w.t1, if_true, Nat.sub_self, whn]
            rcases ix3 c3 with rfl | rfl | rfl
            · rw [if_pos rfl, if_neg (by decide), if_pos rfl]
            · rw [if_neg (by decide), if_pos rfl, if_neg (by decide), if_neg (by decide)]
            · rw [if_neg (by decide), if_neg (by decide), if_pos rfl]
          · intro s k hs ih S a b q h hq hab
            have kk := k528 (c := c) (S := S) (v := opn M (M (94 + 2 * j)) (nI s) (-1) (cA M))
            simp only [f_X9_when_L43, h.o.1, obs, h.o.2.1, mg1, h.o.v1, h.w.f1 hs, if_false, e_X9_canCome h.o h.w (show 11 ≤ n by omega) hj, bds, lts, nI_1, b2i_eq0]
            rw [show cY M - s = (cY M - (s + 1)) + 1 by omega, whn]
            by_cases d : (rea M j (nI s) (-1) >>> (t &&& 31)) &&& 1 = 1
            · rw [if_neg (fun q => q d), if_pos d]
              by_cases e : q = 0
              · rw [if_pos (hab.mpr e), if_pos e]
                obtain ⟨S2, r, k2⟩ := ih _ (nI s) (nI s) (q + 1) (h.kp kk) (by omega) ⟨fun r => absurd r (nIm1 (by omega)), fun r => by omega⟩
                exact ⟨S2, r, kk.tr k2⟩
              · rw [if_neg (fun r => e (hab.mp r)), if_neg e]
                obtain ⟨S2, r, k2⟩ := ih _ a (nI s) (q + 1) (h.kp kk) (by omega) ⟨fun r => absurd (hab.mp r) e, fun r => by omega⟩
                exact ⟨S2, r, kk.tr k2⟩
            · rw [if_pos d, if_neg d]
              obtain ⟨S2, r, k2⟩ := ih _ a b q (h.kp kk) (by omega) hab
              exact ⟨S2, r, kk.tr k2⟩
        obtain ⟨S2, md, k2⟩ := md
        refine OK.k (S1 := S) (S2 := S2) h ?_ KP.rf ?_ k2 (v := whn (fun s => (rea M j (nI s) (-1) >>> (t &&& 31)) &&& 1 = 1) z (cY M) 0 (-1) (-1) 0)
        · simp only [f_X8_when, h.n0, obs, e_X3_hasWalker h.m, e_X3_hasPlace h.m, bds, ifb1 c1, ifb1 c2, if_neg c3.1, if_pos ((bnd (2 : Int32) 2 (by decide) rfl).mpr c3.2)]
          exact cl
        · simp only [f_X9_when, e_X9_isWalker h.o h.w, e_X9_isPlace h.o h.w, bds, ifb1 c1, ifb1 c2, inN 2 (nI 3) 2 (by decide) rfl rfl, ifb1 c3]
          exact md
      · refine OK.r h (v := -2) ?_ (by simp only [f_X9_when, e_X9_isWalker h.o h.w, e_X9_isPlace h.o h.w, bds, ifb1 c1, ifb1 c2, inN 2 (nI 3) 2 (by decide) rfl rfl, ifb0 c3])
        simp only [f_X8_when, h.n0, obs, e_X3_hasWalker h.m, e_X3_hasPlace h.m, bds, ifb1 c1, ifb1 c2]
        by_cases c4 : z < 0
        · rw [if_pos c4]
        · rw [if_neg c4, if_neg (fun q => c3 ⟨c4, (bnd (2 : Int32) 2 (by decide) rfl).mp q⟩)]
    · exact OK.r h (v := -2) (by simp only [f_X8_when, h.n0, obs, e_X3_hasWalker h.m, e_X3_hasPlace h.m, bds, ifb1 c1, ifb0 c2]) (by simp only [f_X9_when, e_X9_isWalker h.o h.w, e_X9_isPlace h.o h.w, bds, ifb1 c1, ifb0 c2])
  · exact OK.r h (v := -2) (by simp only [f_X8_when, h.n0, obs, e_X3_hasWalker h.m, bds, ifb0 c1]) (by simp only [f_X9_when, e_X9_isWalker h.o h.w, bds, ifb0 c1])
/-- the highest place of those in v (as bits), the least of several -/
def hig (M : Nat → Int32) (v r : Nat) : Prop := r < cP M ∧ v.testBit r = true ∧ (∀ q, q < cP M → v.testBit q = true → (M (7 + q)).toInt ≤ (M (7 + r)).toInt) ∧ ∀ q, q < r → v.testBit q = true → (M (7 + q)).toInt < (M (7 + r)).toInt
theorem hig_un {v r r2 : Nat} (h : hig M v r) (h2 : hig M v r2) : r = r2 := by
  rcases Nat.lt_trichotomy r r2 with q | q | q
  · have a := h2.2.2.2 r q h.2.1
    have b := h.2.2.1 r2 h2.1 h2.2.1
    omega
  · exact q
  · have a := h.2.2.2 r2 q h2.2.1
    have b := h2.2.2.1 r h.1 h.2.1
    omega
theorem e_X8_high_L (h : Inv E c S x M) (hn : 20 ≤ n) {v o : Nat} (hv : v < 2 ^ 31) (ho : o < cP M) (hb : v.testBit o = true) : ∃ r, hig M v r ∧ f_X8_high_L53 E n n S c (nI v) (nI o) (-1) 0 = some (nI r, S) := by
  have hP := h.w.lP
  refine lp (N := cP M) (P := fun s k => ∀ (a : Nat) (b : Int32), ((b = -1 ∧ a = o ∧ ∀ q, q < s → v.testBit q = false) ∨ (b = M (7 + a) ∧ a < s ∧ v.testBit a = true ∧ (∀ q, q < s → v.testBit q = true → (M (7 + q)).toInt ≤ (M (7 + a)).toInt) ∧ ∀ q, q < a → v.testBit q = true → (M (7 + q)).toInt < (M (7 + a)).toInt)) → ∃ r, hig M v r ∧ f_X8_high_L53 E n k S c (nI v) (nI a) b (nI s) = some (nI r, S)) ?_ ?_ (cP M) 0 n (by omega) (by omega) o (-1) (Or.inl ⟨rfl, rfl, fun q hq => by omega⟩)
  · intro k a b hab
    rcases hab with ⟨-, -, q⟩ | ⟨-, q1, q2, q3, q4⟩
    · have := q o ho; rw [hb] at this; cases this
    · refine ⟨a, ⟨q1, q2, q3, q4⟩, ?_⟩
      simp only [f_X8_high_L53, h.n0, obs, h.m.i129, h.w.t0, if_true]
  · intro s k hs ih a b hab
    have hb2 := bitI (j := s) hv (by omega)
    obtain ⟨y, hy, ey⟩ := h.w.2.2.2.2.1 s (by omega)
    simp only [f_X8_high_L53, h.n0, obs, h.m.i129, h.w.f0 hs, if_false, h.m.g135, h.m.n1, nI_clamp (show s < 2 ^ 31 by omega), ifn (rinc (show s < 8 by omega) (show 8 < 2 ^ 31 by omega)), h.m.hh s (by omega), lts, nI_1]
    by_cases d : (nI v >>> (nI s &&& 31)) &&& 1 = 1
    · have dt := hb2.mp d
      rw [if_pos d]
      by_cases e : M (7 + s) ≤ b
      · rw [if_pos e]
        rcases hab with ⟨q1, -, -⟩ | ⟨q0, q1, q2, q3, q4⟩
        · exfalso
          rw [q1, ey, fa_le, nI_toInt (by omega), show (-1 : Int32).toInt = -1 by decide] at e; omega
        · refine ih a b (Or.inr ⟨q0, by omega, q2, fun q hq ht => ?_, q4⟩)
          by_cases eq : q = s
          · subst eq; rw [q0, fa_le] at e; exact e
          · exact q3 q (by omega) ht
      · rw [if_neg e]
        refine ih s (M (7 + s)) (Or.inr ⟨rfl, by omega, dt, fun q hq ht => ?_, fun q hq ht => ?_⟩)
        · by_cases eq : q = s
          · subst eq; exact Int.le_refl _
          · rcases hab with ⟨-, -, q1⟩ | ⟨q0, q1, q2, q3, q4⟩
            · have := q1 q (by omega); rw [ht] at this; cases this
            · have := q3 q (by omega) ht
              rw [q0, fa_le] at e; omega
        · rcases hab with ⟨-, -, q1⟩ | ⟨q0, q1, q2, q3, q4⟩
          · have := q1 q (by omega); rw [ht] at this; cases this
          · have := q3 q (by omega) ht
            rw [q0, fa_le] at e; omega
    · have df : v.testBit s = false := by
        cases hq : v.testBit s
        · rfl
        · exact absurd (hb2.mpr hq) d
      rw [if_neg d]
      refine ih a b ?_
      rcases hab with ⟨q1, q2, q3⟩ | ⟨q0, q1, q2, q3, q4⟩
      · refine Or.inl ⟨q1, q2, fun q hq => ?_⟩
        by_cases eq : q = s
        · subst eq; exact df
        · exact q3 q (by omega)
      · refine Or.inr ⟨q0, by omega, q2, fun q hq ht => ?_, q4⟩
        by_cases eq : q = s
        · subst eq; rw [df] at ht; cases ht
        · exact q3 q (by omega) ht
theorem e_X9_high_L (h : Inv E c S x M) (hn : 20 ≤ n) {v o : Nat} (hv : v < 2 ^ 31) (ho : o < cP M) (hb : v.testBit o = true) : ∃ r, hig M v r ∧ f_X9_high_L55 E n n S (c + 129) (nI v) (nI o) (M 0 - 1) = some (nI r, S) := by
  have hP := h.w.lP
  have key : ∀ s, s ≤ cP M → ∀ k, s < k → ∀ a, a < cP M → v.testBit a = true → (∀ q, s ≤ q → q < cP M → v.testBit q = true → (M (7 + q)).toInt ≤ (M (7 + a)).toInt) → (∀ q, s ≤ q → q < a → v.testBit q = true → (M (7 + q)).toInt < (M (7 + a)).toInt) → ∃ r, hig M v r ∧ f_X9_high_L55 E n k S (c + 129) (nI v) (nI a) (nI s - 1) = some (nI r, S) := by
    intro s
    induction s with
    | zero =>
      intro _ k hk a ha hb q1 q2
      obtain ⟨k, rfl⟩ : ∃ q, k = q + 1 := ⟨k - 1, by omega⟩
      refine ⟨a, ⟨ha, hb, fun q hq ht => q1 q (by omega) hq ht, fun q hq ht => q2 q (by omega) hq ht⟩, ?_⟩
      simp only [f_X9_high_L55, show (nI 0 - 1 : Int32) < 0 by decide, if_true]
    | succ s ih =>
      intro hs k hk a ha hb q1 q2
      obtain ⟨k, rfl⟩ : ∃ q, k = q + 1 := ⟨k - 1, by omega⟩
      have hb2 := bitI (j := s) hv (by omega)
      simp only [f_X9_high_L55, nI_pred, nI_pos (show s < 2 ^ 31 by omega), if_false, h.o.1, obs, ixH, h.o.2.1, nI_clamp (show 7 + s < 2 ^ 31 by omega), nI_clamp (show 7 + a < 2 ^ 31 by omega), ifn (rinc (show 7 + s < 109 by omega) (show 109 < 2 ^ 31 by omega)), ifn (rinc (show 7 + a < 109 by omega) (show 109 < 2 ^ 31 by omega)), h.o.2.2.1 _ (show 7 + s < 109 by omega), h.o.2.2.1 _ (show 7 + a < 109 by omega), lts]
      rw [show nI s + (-1) = nI s - 1 by rw [Int32.sub_eq_add_neg]]
      by_cases d : (nI v >>> (nI s &&& 31)) &&& 1 = 1
      · have dt := hb2.mp d
        rw [if_pos d]
        by_cases e : M (7 + s) < M (7 + a)
        · rw [if_pos e]
          rw [fa_lt] at e
          refine ih (by omega) k (by omega) a ha hb (fun q h1 h2 h3 => ?_) (fun q h1 h2 h3 => ?_)
          · by_cases eq : q = s
            · subst eq; omega
            · exact q1 q (by omega) h2 h3
          · by_cases eq : q = s
            · subst eq; exact e
            · exact q2 q (by omega) h2 h3
        · rw [if_neg e]
          rw [fa_lt] at e
          refine ih (by omega) k (by omega) s (by omega) dt (fun q h1 h2 h3 => ?_) (fun q h1 h2 h3 => by omega)
          by_cases eq : q = s
          · subst eq; exact Int.le_refl _
          · have := q1 q (by omega) h2 h3
            omega
      · have df : v.testBit s = false := by
          cases hq : v.testBit s
          · rfl
          · exact absurd (hb2.mpr hq) d
        rw [if_neg d]
        refine ih (by omega) k (by omega) a ha hb (fun q h1 h2 h3 => ?_) (fun q h1 h2 h3 => ?_)
        · by_cases eq : q = s
          · subst eq; rw [df] at h3; cases h3
          · exact q1 q (by omega) h2 h3
        · by_cases eq : q = s
          · subst eq; rw [df] at h3; cases h3
          · exact q2 q (by omega) h2 h3
  have := key (cP M) (Nat.le_refl _) n (by omega) o ho hb (fun q h1 h2 h3 => by omega) (fun q h1 h2 h3 => by omega)
  rw [← h.w.s0] at this
  exact this
theorem op_high (h : Inv E c S x M) (hn : 20 ≤ n) (w y : Int32) : OK E c (f_X8_high E n S c w y) (fun S1 => f_X9_high E n S1 (c + 129) w y) := by
  have hW := h.w.lW
  have hP := h.w.lP
  by_cases c1 : inI w (M 5)
  · by_cases c2 : inI y (M 1)
    · obtain ⟨j, hj, rfl⟩ := inI_j h.w.s5 (by omega) c1
      obtain ⟨l, a, -, ha, e1, e2⟩ := h.w.walk hj
      obtain ⟨v, hv, ev, hb⟩ := rch_nat h.w (opn M (M (94 + 2 * j)) y (-1) (cA M)) ha
      have h2 : 2 ^ cP M ≤ 2 ^ 8 := Nat.pow_le_pow_right (by decide) hP
      have er : rea M j y (-1) = nI v := by rw [rea, e2, ev]
      have kk := k528 (c := c) (S := S) (v := opn M (M (94 + 2 * j)) y (-1) (cA M))
      obtain ⟨r, hr, f1⟩ := e_X8_high_L h hn (show v < 2 ^ 31 by omega) ha hb
      obtain ⟨r2, hr2, f2⟩ := e_X9_high_L (h.kp kk) hn (show v < 2 ^ 31 by omega) ha hb
      have := hig_un hr hr2
      subst this
      refine OK.k (S1 := S) h (v := nI r) ?_ KP.rf ?_ kk
      · simp only [f_X8_high, h.n0, obs, e_X3_hasWalker h.m, e_X3_hasYear h.m, bds, ifb1 c1, ifb1 c2, e_X3_reachOf h.m h.w (show 11 ≤ n by omega) hj, h.m.g146, h.m.n12, nI_clamp (show j < 2 ^ 31 by omega), ifn (rinc (show j < 4 by omega) (show 4 < 2 ^ 31 by omega)), (h.m.hk j hj).2, lts, er, e2]
        exact f1
      · have ho := h.o.si8 (v := opn M (M (94 + 2 * j)) y (-1) (cA M))
        simp only [f_X9_high, e_X9_isWalker h.o h.w, e_X9_isYear h.o h.w, bds, ifb1 c1, ifb1 c2, e_X9_leapOf h.o (show j < 4 by omega), e_X9_opens h.o h.w (show 11 ≤ n by omega), e_X9_homeOf ho (show j < 4 by omega), e2, e_X9_reachFrom ho h.w (show 11 ≤ n by omega) ha, gi_si_eq, ev, e_X9_places ho, lts]
        exact f2
    · exact OK.r h (v := -2) (by simp only [f_X8_high, h.n0, obs, e_X3_hasWalker h.m, e_X3_hasYear h.m, bds, ifb1 c1, ifb0 c2]) (by simp only [f_X9_high, e_X9_isWalker h.o h.w, e_X9_isYear h.o h.w, bds, ifb1 c1, ifb0 c2])
  · exact OK.r h (v := -2) (by simp only [f_X8_high, h.n0, obs, e_X3_hasWalker h.m, bds, ifb0 c1]) (by simp only [f_X9_high, e_X9_isWalker h.o h.w, bds, ifb0 c1])
/-- parts from place s on: what is met, how many -/
def prt (M : Nat → Int32) (o : Int32) : Nat → Nat → Int32 → Int32 → Int32
  | 0, _, _, t => t
  | k + 1, s, v, t => if (v >>> (nI s &&& 31)) &&& 1 = 1 then prt M o k (s + 1) v t else prt M o k (s + 1) (v ||| rch M o (nI s)) (t + 1)
theorem op_parts (h : Inv E c S x M) (hn : 20 ≤ n) (y z : Int32) : OK E c (f_X8_parts E n S c y z) (fun S1 => f_X9_parts E n S1 (c + 129) y z) := by
  have hP := h.w.lP
  by_cases c1 : inI y (M 1)
  · by_cases c2 : inI z (nI 100)
    · have kk := k528 (c := c) (S := S) (v := opn M z y (-1) (cA M))
      refine OK.k (S1 := S) h (v := prt M (opn M z y (-1) (cA M)) (cP M) 0 0 0) ?_ KP.rf ?_ kk
      · simp only [f_X8_parts, h.n0, obs, e_X3_hasYear h.m, bds, ifb1 c1, if_neg c2.1, if_pos ((bnd (99 : Int32) 99 (by decide) rfl).mpr c2.2), e_X3_openPaths h.m h.w (show 11 ≤ n by omega)]
        refine lp (N := cP M) (P := fun s k => ∀ v t, f_X8_parts_L44 E n k S c (opn M z y (-1) (cA M)) v t (nI s) = some (prt M (opn M z y (-1) (cA M)) (cP M - s) s v t, S)) ?_ ?_ (cP M) 0 n (by omega) (by omega) 0 0
        · intro k v t
          simp only [f_X8_parts_L44, h.n0, obs, h.m.i129, h.w.t0, if_true, Nat.sub_self, prt]
        · intro s k hs ih v t
          simp only [f_X8_parts_L44, h.n0, obs, h.m.i129, h.w.f0 hs, if_false, e_X3_placesFrom h.m h.w (show 11 ≤ n by omega) _ hs, bds, lts, nI_1]
          rw [show cP M - s = (cP M - (s + 1)) + 1 by omega, prt]
          by_cases d : (v >>> (nI s &&& 31)) &&& 1 = 1
          · rw [if_neg (fun q => bit0.mp q d), if_pos d]; exact ih v t
          · rw [if_pos (bit0.mpr d), if_neg d]; exact ih _ _
      · simp only [f_X9_parts, e_X9_isYear h.o h.w, bds, ifb1 c1, inN 99 (nI 100) 99 (by decide) rfl rfl, ifb1 c2, e_X9_opens h.o h.w (show 11 ≤ n by omega)]
        have ho := h.o.si8 (v := opn M z y (-1) (cA M))
        refine lp (N := cP M) (P := fun s k => ∀ v t, f_X9_parts_L38 E n k (si S 528 (c + 129) (opn M z y (-1) (cA M))) (c + 129) v t (nI s) = some (prt M (opn M z y (-1) (cA M)) (cP M - s) s v t, si S 528 (c + 129) (opn M z y (-1) (cA M)))) ?_ ?_ (cP M) 0 n (by omega) (by omega) 0 0
        · intro k v t
          simp only [f_X9_parts_L38, e_X9_places ho, bds, h.w.t0, if_true, Nat.sub_self, prt]
        · intro s k hs ih v t
          simp only [f_X9_parts_L38, e_X9_places ho, bds, h.w.f0 hs, if_false, e_X9_reachFrom ho h.w (show 11 ≤ n by omega) hs, gi_si_eq, lts, nI_1]
          rw [show cP M - s = (cP M - (s + 1)) + 1 by omega, prt]
          by_cases d : (v >>> (nI s &&& 31)) &&& 1 = 1
          · rw [if_pos d, if_pos d]; exact ih v t
          · rw [if_neg d, if_neg d]; exact ih _ _
    · refine OK.r h (v := -2) ?_ (by simp only [f_X9_parts, e_X9_isYear h.o h.w, bds, ifb1 c1, inN 99 (nI 100) 99 (by decide) rfl rfl, ifb0 c2])
      simp only [f_X8_parts, h.n0, obs, e_X3_hasYear h.m, bds, ifb1 c1]
      by_cases c3 : z < 0
      · rw [if_pos c3]
      · rw [if_neg c3, if_neg (fun q => c2 ⟨c3, (bnd (99 : Int32) 99 (by decide) rfl).mp q⟩)]
  · exact OK.r h (v := -2) (by simp only [f_X8_parts, h.n0, obs, e_X3_hasYear h.m, bds, ifb0 c1]) (by simp only [f_X9_parts, e_X9_isYear h.o h.w, bds, ifb0 c1])
/-- paths without each of which one doesn't come -/
def cut (M : Nat → Int32) (o g t : Int32) : Nat → Int32
  | 0 => 0
  | p + 1 => if (rch M (o &&& (((1 : Int32) <<< (nI p &&& 31)) ^^^ (-1 : Int32))) g >>> (t &&& 31)) &&& 1 = 0 then cut M o g t p ||| ((1 : Int32) <<< (nI p &&& 31)) else cut M o g t p
theorem op_cuts (h : Inv E c S x M) (hn : 20 ≤ n) (w t y : Int32) : OK E c (f_X8_cuts E n S c w t y) (fun S1 => f_X9_cuts E n S1 (c + 129) w t y) := by
  have hW := h.w.lW
  have hA := h.w.lA
  by_cases c1 : inI w (M 5) ∧ inI t (M 0) ∧ inI y (M 1)
  · obtain ⟨j, hj, rfl⟩ := inI_j h.w.s5 (by omega) c1.1
    obtain ⟨l, a, -, ha, e1, e2⟩ := h.w.walk hj
    have kk : ∀ v, KP c S (si S 528 (c + 129) v) := fun v => k528
    by_cases c2 : (rea M j y (-1) >>> (t &&& 31)) &&& 1 = 1
    · refine OK.k (S1 := S) h (v := cut M (opn M (M (94 + 2 * j)) y (-1) (cA M)) (nI a) t (cA M)) ?_ KP.rf ?_ (kk (if cA M = 0 then opn M (M (94 + 2 * j)) y (-1) (cA M) else opn M (M (94 + 2 * j)) y (-1) (cA M) &&& (((1 : Int32) <<< (nI (cA M - 1) &&& 31)) ^^^ (-1 : Int32))))
      · simp only [f_X8_cuts, e_X8_knowsWay h, bds, ifb1 c1, e_X8_canCome h (show 11 ≤ n by omega) hj, ifb1 c2, h.n0, obs, h.m.g145, h.m.n11, nI_clamp (show j < 2 ^ 31 by omega), ifn (rinc (show j < 4 by omega) (show 4 < 2 ^ 31 by omega)), (h.m.hk j hj).1, e_X3_openPaths h.m h.w (show 11 ≤ n by omega)]
        refine lp (N := cA M) (P := fun s k => f_X8_cuts_L51 E n k S c (nI j) t (opn M (M (94 + 2 * j)) y (-1) (cA M)) (cut M (opn M (M (94 + 2 * j)) y (-1) (cA M)) (nI a) t s) (nI s) = some (cut M (opn M (M (94 + 2 * j)) y (-1) (cA M)) (nI a) t (cA M), S)) ?_ ?_ (cA M) 0 n (by omega) (by omega)
        · intro k
          simp only [f_X8_cuts_L51, h.n0, obs, h.m.i131, h.w.t2, if_true]
        · intro s k hs ih
          simp only [f_X8_cuts_L51, h.n0, obs, h.m.i131, h.w.f2 hs, if_false, h.m.g146, h.m.n12, nI_clamp (show j < 2 ^ 31 by omega), ifn (rinc (show j < 4 by omega) (show 4 < 2 ^ 31 by omega)), (h.m.hk j hj).2, e2, e_X3_placesFrom h.m h.w (show 11 ≤ n by omega) _ ha, bds, lts, nI_1]
          rw [cut] at ih
          by_cases d : (rch M (opn M (M (94 + 2 * j)) y (-1) (cA M) &&& (((1 : Int32) <<< (nI s &&& 31)) ^^^ (-1 : Int32))) (nI a) >>> (t &&& 31)) &&& 1 = 0
          · rw [if_pos d] at ih ⊢; exact ih
          · rw [if_neg d] at ih ⊢; exact ih
      · simp only [f_X9_cuts, e_X9_isAsked h.o h.w, bds, ifb1 c1, e_X9_canCome h.o h.w (show 11 ≤ n by omega) hj, ifb1 c2, lts, gi_si_eq]
        refine lp (N := cA M) (P := fun s k => f_X9_cuts_L37 E n k (si S 528 (c + 129) (if s = 0 then opn M (M (94 + 2 * j)) y (-1) (cA M) else opn M (M (94 + 2 * j)) y (-1) (cA M) &&& (((1 : Int32) <<< (nI (s - 1) &&& 31)) ^^^ (-1 : Int32)))) (c + 129) (nI j) t (opn M (M (94 + 2 * j)) y (-1) (cA M)) (cut M (opn M (M (94 + 2 * j)) y (-1) (cA M)) (nI a) t s) (nI s) = some (cut M (opn M (M (94 + 2 * j)) y (-1) (cA M)) (nI a) t (cA M), si S 528 (c + 129) (if cA M = 0 then opn M (M (94 + 2 * j)) y (-1) (cA M) else opn M (M (94 + 2 * j)) y (-1) (cA M) &&& (((1 : Int32) <<< (nI (cA M - 1) &&& 31)) ^^^ (-1 : Int32))))) ?_ ?_ (cA M) 0 n (by omega) (by omega)
        · intro k
          have ho := h.o.si8 (v := if cA M = 0 then opn M (M (94 + 2 * j)) y (-1) (cA M) else opn M (M (94 + 2 * j)) y (-1) (cA M) &&& (((1 : Int32) <<< (nI (cA M - 1) &&& 31)) ^^^ (-1 : Int32)))
          simp only [f_X9_cuts_L37, ho.1, obs, ho.2.1, mg2, ho.v2, h.w.t2, if_true]
        · intro s k hs ih
          have ho := fun v => h.o.si8 (v := v)
          rw [if_neg (show ¬ s + 1 = 0 by omega), Nat.add_sub_cancel] at ih
          generalize (if s = 0 then opn M (M (94 + 2 * j)) y (-1) (cA M) else opn M (M (94 + 2 * j)) y (-1) (cA M) &&& (((1 : Int32) <<< (nI (s - 1) &&& 31)) ^^^ (-1 : Int32))) = v0
          simp only [f_X9_cuts_L37, (ho v0).1, obs, (ho v0).2.1, mg2, (ho v0).v2, h.w.f2 hs, if_false, lts, si_si, e_X9_homeOf (ho _) (show j < 4 by omega), e2, e_X9_reachFrom (ho _) h.w (show 11 ≤ n by omega) ha, gi_si_eq, bds, nI_1, Int32.or_zero]
          rw [cut] at ih
          by_cases d : (rch M (opn M (M (94 + 2 * j)) y (-1) (cA M) &&& (((1 : Int32) <<< (nI s &&& 31)) ^^^ (-1 : Int32))) (nI a) >>> (t &&& 31)) &&& 1 = 0
          · rw [if_pos d] at ih ⊢; exact ih
          · rw [if_neg d] at ih ⊢; exact ih
    · exact OK.k (S1 := S) h (v := -1) (by simp only [f_X8_cuts, e_X8_knowsWay h, bds, ifb1 c1, e_X8_canCome h (show 11 ≤ n by omega) hj, ifb0 c2]) KP.rf (by simp only [f_X9_cuts, e_X9_isAsked h.o h.w, bds, ifb1 c1, e_X9_canCome h.o h.w (show 11 ≤ n by omega) hj, ifb0 c2]) (kk (opn M (M (94 + 2 * j)) y (-1) (cA M)))
  · exact OK.r h (v := -2) (by simp only [f_X8_cuts, e_X8_knowsWay h, bds, ifb0 c1]) (by simp only [f_X9_cuts, e_X9_isAsked h.o h.w, bds, ifb0 c1])
/-- the years in which a walker comes elsewhere without s's step -/
noncomputable def vai (M : Nat → Int32) (s w : Nat) : Nat → Prop := fun y => ∀ z, z < y → rea M w (nI z) (-1) = rea M w (nI z) (nI s)
theorem vai_s {s w y : Nat} : vai M s w (y + 1) ↔ vai M s w y ∧ rea M w (nI y) (-1) = rea M w (nI y) (nI s) := by
  constructor
  · intro q; exact ⟨fun z hz => q z (by omega), q y (by omega)⟩
  · rintro ⟨q, r⟩ z hz
    by_cases e : z = y
    · subst e; exact r
    · exact q z (by omega)
theorem e_X8_vain_L44 (h : Inv E c S x M) (hn : 40 ≤ n) (k31 : WS → Nat → Int32 → Int32 → Option (Int32 × WS)) {s w : Nat} (hk : w < cW M) : f_X8_vain_L44 E n k31 n S c (nI s) (nI w) 0 = @ite _ (vai M s w (cY M)) (Classical.propDecidable _) (k31 S c (nI s) (nI (w + 1))) (some (0, S)) := by
  have hY := h.w.lY
  refine lp (N := cY M) (P := fun y k => vai M s w y → f_X8_vain_L44 E n k31 k S c (nI s) (nI w) (nI y) = @ite _ (vai M s w (cY M)) (Classical.propDecidable _) (k31 S c (nI s) (nI (w + 1))) (some (0, S))) ?_ ?_ (cY M) 0 n (by omega) (by omega) (fun z hz => by omega)
  · intro k q
    rw [if_pos q]
    simp only [f_X8_vain_L44, h.n0, obs, h.m.i130, h.w.t1, if_true, lts, nI_1]
  · intro y k hy ih q
    simp only [f_X8_vain_L44, h.n0, obs, h.m.i130, h.w.f1 hy, if_false, e_X3_reachOf h.m h.w (show 11 ≤ n by omega) hk, bds, lts, nI_1]
    by_cases d : rea M w (nI y) (-1) = rea M w (nI y) (nI s)
    · rw [if_pos d]; exact ih (vai_s.mpr ⟨q, d⟩)
    · rw [if_neg d, if_neg (fun q2 => d (q2 y hy))]
theorem e_X9_vain_L39 (h : Inv E c S x M) (hn : 40 ≤ n) (k26 : WS → Nat → Int32 → Int32 → Int32 → Option (Int32 × WS)) {s w : Nat} (hk : w < cW M) (p : Prop) : ∃ S2, KP c S S2 ∧ f_X9_vain_L39 E n k26 n S (c + 129) (nI s) (b2i p) (nI w) 0 = k26 S2 (c + 129) (nI s) (b2i (p ∧ vai M s w (cY M))) (nI (w + 1)) := by
  have hY := h.w.lY
  have key : ∀ (S : WS) (p : Prop), Inv E c S x M → ∃ S2, KP c S S2 ∧ f_X9_vain_L39 E n k26 n S (c + 129) (nI s) (b2i (p ∧ vai M s w 0)) (nI w) (nI 0) = k26 S2 (c + 129) (nI s) (b2i (p ∧ vai M s w (cY M))) (nI (w + 1)) := by
    intro S p h
    refine lp (N := cY M) (P := fun y k => ∀ S, Inv E c S x M → ∃ S2, KP c S S2 ∧ f_X9_vain_L39 E n k26 k S (c + 129) (nI s) (b2i (p ∧ vai M s w y)) (nI w) (nI y) = k26 S2 (c + 129) (nI s) (b2i (p ∧ vai M s w (cY M))) (nI (w + 1))) ?_ ?_ (cY M) 0 n (by omega) (by omega) S h
    · intro k S h
      refine ⟨S, KP.rf, ?_⟩
      simp only [f_X9_vain_L39, h.o.1, obs, h.o.2.1, mg1, h.o.v1, h.w.t1, if_true, lts, nI_1]
    · intro y k hy ih S h
      have ho := h.o.si8 (v := opn M (M (94 + 2 * w)) (nI y) (-1) (cA M))
      have hl : RWl E (si (si S 528 (c + 129) (opn M (M (94 + 2 * w)) (nI y) (-1) (cA M))) 527 (c + 129) (nI s)) (c + 129) M (nI s) := ⟨ho.1, ho.2.1, ho.2.2.1, gi_si_eq⟩
      simp only [f_X9_vain_L39, h.o.1, obs, h.o.2.1, mg1, h.o.v1, h.w.f1 hy, if_false, e_X9_reachOf h.o h.w (show 11 ≤ n by omega) hk, e_X9_reachOf hl h.w (show 11 ≤ n by omega) hk, bds, lts, nI_1]
      have kk : ∀ v, KP c S (si (si (si (si S 528 (c + 129) (opn M (M (94 + 2 * w)) (nI y) (-1) (cA M))) 527 (c + 129) (nI s)) 528 (c + 129) v) 527 (c + 129) (-1)) := by
        intro v
        refine ⟨fun _ _ _ _ => rfl, fun _ => rfl, fun f a q => ?_, fun _ _ => rfl, fun _ _ _ => rfl⟩
        have f8 : f ≠ 528 := by unfold kf at q; omega
        by_cases e : f = 527 ∧ a = c + 129
        · rw [e.1, e.2, gi_si_eq]; exact h.o.2.2.2.symm
        · have : ∀ (T : WS) (u : Int32), gi (si T 527 (c + 129) u) f a = gi T f a := fun T u => by
            by_cases e2 : f = 527
            · exact gi_si_a (fun e3 => e ⟨e2, e3⟩)
            · exact gi_si_f e2
          rw [this, gi_si_f f8, this, gi_si_f f8]
      have kz : KP c S (si (si (si S 528 (c + 129) (opn M (M (94 + 2 * w)) (nI y) (-1) (cA M))) 527 (c + 129) (nI s)) 527 (c + 129) (-1)) := by
        refine ⟨fun _ _ _ _ => rfl, fun _ => rfl, fun f a q => ?_, fun _ _ => rfl, fun _ _ _ => rfl⟩
        have f8 : f ≠ 528 := by unfold kf at q; omega
        by_cases e : f = 527 ∧ a = c + 129
        · rw [e.1, e.2, gi_si_eq]; exact h.o.2.2.2.symm
        · have : ∀ (T : WS) (u : Int32), gi (si T 527 (c + 129) u) f a = gi T f a := fun T u => by
            by_cases e2 : f = 527
            · exact gi_si_a (fun e3 => e ⟨e2, e3⟩)
            · exact gi_si_f e2
          rw [this, this, gi_si_f f8]
      by_cases q : p ∧ vai M s w y
      · rw [ifb1 q]
        by_cases d : rea M w (nI y) (nI s) = rea M w (nI y) (-1)
        · rw [if_pos d]
          obtain ⟨S2, a, b⟩ := ih _ (h.kp (kk (opn M (M (94 + 2 * w)) (nI y) (nI s) (cA M))))
          rw [b2i_t (show p ∧ vai M s w (y + 1) from ⟨q.1, vai_s.mpr ⟨q.2, d.symm⟩⟩)] at b
          exact ⟨S2, (kk _).tr a, b⟩
        · rw [if_neg d]
          obtain ⟨S2, a, b⟩ := ih _ (h.kp (kk (opn M (M (94 + 2 * w)) (nI y) (nI s) (cA M))))
          rw [b2i_f (show ¬ (p ∧ vai M s w (y + 1)) from fun r => d (vai_s.mp r.2).2.symm)] at b
          exact ⟨S2, (kk _).tr a, b⟩
      · rw [ifb0 q]
        obtain ⟨S2, a, b⟩ := ih _ (h.kp kz)
        rw [b2i_f (show ¬ (p ∧ vai M s w (y + 1)) from fun r => q ⟨r.1, (vai_s.mp r.2).1⟩)] at b
        exact ⟨S2, kz.tr a, b⟩
  obtain ⟨S2, a, b⟩ := key S p h
  rw [b2i_c (show (p ∧ vai M s w 0) ↔ p from ⟨fun q => q.1, fun q => ⟨q, fun z hz => by omega⟩⟩)] at b
  exact ⟨S2, a, b⟩
theorem op_vain (h : Inv E c S x M) (hn : 40 ≤ n) (s : Int32) : OK E c (f_X8_vain E n S c s) (fun S1 => f_X9_vain E n S1 (c + 129) s) := by
  have hS := h.w.lS
  have hW := h.w.lW
  by_cases c1 : inI s (M 4)
  · obtain ⟨j, hj, rfl⟩ := inI_j h.w.s4 (by omega) c1
    by_cases c2 : M (102 + j) = -1
    · exact OK.r h (v := -1) (by simp only [f_X8_vain, h.n0, obs, e_X3_hasSuitor h.m, bds, ifb1 c1, h.m.g143, h.m.n9, nI_clamp (show j < 2 ^ 31 by omega), ifn (rinc (show j < 7 by omega) (show 7 < 2 ^ 31 by omega)), h.m.hc j (by omega), if_pos c2]) (by simp only [f_X9_vain, e_X9_isSuitor h.o h.w, bds, ifb1 c1, e_X9_courts h.o (show j < 7 by omega), if_pos c2])
    · have cl : f_X8_vain_L31 E n n S c (nI j) 0 = some (b2i (∀ w, w < cW M → vai M j w (cY M)), S) := by
        refine lp (N := cW M) (P := fun w k => (∀ v, v < w → vai M j v (cY M)) → f_X8_vain_L31 E n k S c (nI j) (nI w) = some (b2i (∀ w, w < cW M → vai M j w (cY M)), S)) ?_ ?_ (cW M) 0 n (by omega) (by omega) (fun v hv => by omega)
        · intro k q
          simp only [f_X8_vain_L31, h.n0, obs, h.m.i134, h.w.t5, if_true]
          rw [b2i_t q]
        · intro w k hw ih q
          simp only [f_X8_vain_L31, h.n0, obs, h.m.i134, h.w.f5 hw, if_false]
          rw [e_X8_vain_L44 h hn _ hw]
          by_cases d : vai M j w (cY M)
          · rw [if_pos d]
            refine ih (fun v hv => ?_)
            by_cases e : v = w
            · subst e; exact d
            · exact q v (by omega)
          · rw [if_neg d, b2i_f (fun q2 => d (q2 w hw))]
      have md : ∃ S2, KP c S S2 ∧ f_X9_vain_L26 E n n S (c + 129) (nI j) 1 0 = some (b2i (∀ w, w < cW M → vai M j w (cY M)), S2) := by
        have := lp (N := cW M) (P := fun w k => ∀ S, Inv E c S x M → ∃ S2, KP c S S2 ∧ f_X9_vain_L26 E n k S (c + 129) (nI j) (b2i (∀ v, v < w → vai M j v (cY M))) (nI w) = some (b2i (∀ w, w < cW M → vai M j w (cY M)), S2)) ?_ ?_ (cW M) 0 n (by omega) (by omega) S h
        · rw [b2i_t (show ∀ v, v < 0 → vai M j v (cY M) from fun v hv => by omega)] at this
          exact this
        · intro k S h
          refine ⟨S, KP.rf, ?_⟩
          simp only [f_X9_vain_L26, h.o.1, obs, h.o.2.1, mg5, h.o.v5, h.w.t5, if_true]
          by_cases d : ∀ w, w < cW M → vai M j w (cY M)
          · rw [ifb1 d, b2i_t d]
          · rw [ifb0 d, b2i_f d]
        · intro w k hw ih S h
          simp only [f_X9_vain_L26, h.o.1, obs, h.o.2.1, mg5, h.o.v5, h.w.f5 hw, if_false]
          obtain ⟨S2, a, b⟩ := e_X9_vain_L39 h hn (f_X9_vain_L26 E n k) (s := j) hw (∀ v, v < w → vai M j v (cY M))
          rw [b]
          obtain ⟨S3, a3, b3⟩ := ih S2 (h.kp a)
          refine ⟨S3, a.tr a3, ?_⟩
          rw [← b3, b2i_c (p := (∀ v, v < w → vai M j v (cY M)) ∧ vai M j w (cY M)) (q := ∀ v, v < w + 1 → vai M j v (cY M))]
          constructor
          · rintro ⟨q, r⟩ v hv
            by_cases e : v = w
            · subst e; exact r
            · exact q v (by omega)
          · intro q; exact ⟨fun v hv => q v (by omega), q w (by omega)⟩
      obtain ⟨S2, a, b⟩ := md
      refine OK.k (S1 := S) h (v := b2i (∀ w, w < cW M → vai M j w (cY M))) ?_ KP.rf ?_ a
      · simp only [f_X8_vain, h.n0, obs, e_X3_hasSuitor h.m, bds, ifb1 c1, h.m.g143, h.m.n9, nI_clamp (show j < 2 ^ 31 by omega), ifn (rinc (show j < 7 by omega) (show 7 < 2 ^ 31 by omega)), h.m.hc j (by omega), if_neg c2]
        exact cl
      · simp only [f_X9_vain, e_X9_isSuitor h.o h.w, bds, ifb1 c1, e_X9_courts h.o (show j < 7 by omega), if_neg c2]
        exact b
  · exact OK.r h (v := -2) (by simp only [f_X8_vain, h.n0, obs, e_X3_hasSuitor h.m, bds, ifb0 c1]) (by simp only [f_X9_vain, e_X9_isSuitor h.o h.w, bds, ifb0 c1])
end REA
