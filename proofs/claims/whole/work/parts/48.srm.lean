/-! The model's search over courtings -/
theorem kp_wib {c : Nat} {S S' : WS} {a : Nat} {g : Nat → Int32} (k : KP c S S') : KP c (wi S a g) (wi S' a g) := ⟨k.1, k.2.1, k.2.2.1, fun b p => by
  by_cases e : b = a
  · subst e; rw [ai_wi, ai_wi]
  · rw [ai_wi_a e, ai_wi_a e]; exact k.2.2.2.1 b p, k.2.2.2.2⟩
theorem wi_comm {S : WS} {a b : Nat} {g g2 : Nat → Int32} (h : a ≠ b) : wi (wi S a g) b g2 = wi (wi S b g2) a g := by
  unfold wi u1
  simp only [Prod.mk.injEq, and_true, true_and]
  funext k
  by_cases c : k = a
  · subst c; simp [h]
  · by_cases d : k = b
    · subst d; simp [c]
    · simp [c, d]
/-- in the midst of the search: the courting c0 on the row, the true one kept -/
def MI (c : Nat) (S0 : WS) (M : Nat → Int32) (c0 : Nat → Nat) (S : WS) : Prop := ∃ g : Nat → Int32, (∀ i, i < 109 → g i = Mc M c0 i) ∧ (∀ i, 109 ≤ i → g i = ai S0 (c + 129 + 1) i) ∧ KP c (wi S0 (c + 129 + 1) g) S ∧ ∀ s, s < cS M → ai S (c + 129 + 12) s = M (102 + s)
def SBt (v : Int32) (m : Nat) : Prop := (∃ j, j < 5 ∧ v = nI j - 1 ∧ m = 2 ^ j) ∨ (v = -2 ∧ ∃ i j, i < 5 ∧ j < 5 ∧ i ≠ j ∧ m.testBit i = true ∧ m.testBit j = true)
theorem SB_step {v : Int32} {m j : Nat} (h : SBt v m) (hj : j < 5) : SBt (if v = nI j - 1 then nI j - 1 else -2) (m ||| 2 ^ j) := by
  rcases h with ⟨i, hi, e1, e2⟩ | ⟨e1, i, i', hi, hi', hne, b1, b2⟩
  · by_cases e : i = j
    · subst e
      rw [if_pos e1, e2, Nat.or_self]
      exact Or.inl ⟨i, hi, rfl, rfl⟩
    · rw [if_neg (fun q => e ((crv_eq (by omega) (by omega)).mp (e1.symm.trans q))), e2]
      refine Or.inr ⟨rfl, i, j, hi, hj, e, ?_, ?_⟩
      · rw [fb_bit_set, Nat.testBit_two_pow_self]; rfl
      · rw [fb_bit_set, decide_eq_true rfl, Bool.or_true]
  · have ne : ∀ k, k < 5 → (-2 : Int32) ≠ nI k - 1 := by decide
    rw [if_neg (fun q => ne j hj (e1.symm.trans q))]
    refine Or.inr ⟨rfl, i, i', hi, hi', hne, ?_, ?_⟩
    · rw [fb_bit_set, b1]; rfl
    · rw [fb_bit_set, b2]; rfl
def MB (c : Nat) (M : Nat → Int32) (B : BW) (S : WS) : Prop := gi S 539 (c + 129) = nI (bT B) ∧ (bT B ≠ 0 → gi S 540 (c + 129) = nI (bH B) ∧ gi S 541 (c + 129) = nI (bB B) ∧ ∀ s, s < cS M → ai S (c + 129 + 13) s = nI (bF B s) - 1 ∧ SBt (ai S (c + 129 + 14) s) (bM B s)) ∧ (bT B = 0 → ∀ s, s < cS M → bM B s = 0)
section SRM
variable {E : EN} {n c : Nat} {S0 S : WS} {x : Nat} {M : Nat → Int32} {c0 : Nat → Nat} {B : BW}
theorem MI.eq (h : MI c S0 M c0 S) : (∀ i, i < 109 → ai S (c + 129 + 1) i = Mc M c0 i) ∧ (∀ i, 109 ≤ i → ai S (c + 129 + 1) i = ai S0 (c + 129 + 1) i) ∧ KP c (wi S0 (c + 129 + 1) (ai S (c + 129 + 1))) S ∧ ∀ s, s < cS M → ai S (c + 129 + 12) s = M (102 + s) := by
  obtain ⟨g, g1, g2, k, g3⟩ := h
  have e : ai S (c + 129 + 1) = g := (k.2.2.2.1 _ (by unfold ka; omega)).trans ai_wi
  rw [e]
  exact ⟨g1, g2, k, g3⟩
theorem MI.o (h : MI c S0 M c0 S) (h0 : Inv E c S0 x M) : RWl E S (c + 129) (Mc M c0) (-1) := by
  obtain ⟨g, g1, g2, k, g3⟩ := h
  exact (h0.o.row g1).kp k
theorem MI.kp {S1 : WS} (h : MI c S0 M c0 S) (k : KP c S S1) (e : ai S1 (c + 129 + 12) = ai S (c + 129 + 12)) : MI c S0 M c0 S1 := by
  obtain ⟨g, g1, g2, q, g3⟩ := h
  exact ⟨g, g1, g2, q.tr k, by rw [e]; exact g3⟩
theorem MI.rf (h : MI c S0 M c0 S) (h0 : Inv E c S0 x M) {f a b : Nat} (hm : (f, a, b) ∈ shl) : gr S f (c + a) = some (c + b) := by
  obtain ⟨g, g1, g2, q, g3⟩ := h
  have z := shl_f _ hm
  exact (q.1 f (c + a) z.1 z.2).trans (h0.s.g f a b hm)
theorem Mc4 : Mc M c0 4 = M 4 := Mc_lo (by decide)
theorem Mc3 : Mc M c0 3 = M 3 := Mc_lo (by decide)
theorem MI.set (h : MI c S0 M c0 S) (hw : WF M) {d : Nat} (hd : d < cS M) (v : Nat) : MI c S0 M (scd c0 d v) (wi S (c + 129 + 1) (upd (ai S (c + 129 + 1)) (102 + d) (nI v - 1))) := by
  have hS := hw.lS
  obtain ⟨e1, e2, k, e3⟩ := h.eq
  have kk := kp_wib (a := c + 129 + 1) (g := upd (ai S (c + 129 + 1)) (102 + d) (nI v - 1)) k
  rw [wi_wi] at kk
  refine ⟨_, fun i hi => ?_, fun i hi => ?_, kk, fun s hs => by rw [ai_wi_a (by omega)]; exact e3 s hs⟩
  · by_cases e : i = 102 + d
    · subst e; rw [pk_us, Mc_at hd, scd_at]
    · rw [pk_un e, e1 i hi]
      unfold Mc
      by_cases q : 102 ≤ i ∧ i < 102 + cS M
      · rw [if_pos q, if_pos q, scd_un (by omega)]
      · rw [if_neg q, if_neg q]
  · rw [pk_un (by omega)]; exact e2 i hi
/-- the true one back on the row -/
theorem MI.back (h : MI c S0 M c0 S) (h0 : Inv E c S0 x M) (hc : alc M c0) (hn : 8 ≤ n) : ∃ S', f_X9_endsCourtings E n S (c + 129) = some ((), S') ∧ KP c S0 S' ∧ (∀ f q, gi S' f q = gi S f q) ∧ ∀ q, q ≠ c + 129 + 1 → ai S' q = ai S q := by
  have hS := h0.w.lS
  obtain ⟨e1, e2, k, e3⟩ := h.eq
  have o := h.o h0
  have g538 : gr S 538 (c + 129) = some (c + 129 + 12) := h.rf h0 (f := 538) (a := 129) (b := 141) (by decide)
  have l141 : eN E (c + 129 + 12) = 7 := h0.L.at 141 7 (by omega) (by decide)
  have key := e_X9_endsCourtings (E := E) (n := n) (S := S) (g := ai S (c + 129 + 1)) (by rw [wi_self rfl]; exact o) (WF_Mc h0.w hc) hn g538 l141
  rw [wi_self rfl, Mc_n.2.2.2.2.1] at key
  have kk := kp_wib (a := c + 129 + 1) (g := fb_put (ai S (c + 129 + 1)) (ai S (c + 129 + 12)) 102 (cS M)) k
  rw [wi_wi, wi_self] at kk
  · exact ⟨_, key, kk, fun _ _ => rfl, fun q hq => ai_wi_a hq⟩
  · funext i
    by_cases q : 102 ≤ i ∧ i < 102 + cS M
    · rw [fb_put_in q.1 q.2, e3 _ (by omega), h0.o.2.2.1 i (by omega), show 102 + (i - 102) = i by omega]
    · rw [fb_put_out (by omega)]
      by_cases q2 : i < 109
      · rw [e1 i q2, h0.o.2.2.1 i q2]; exact if_neg q
      · exact e2 i (by omega)
theorem e_X9_begins (h : Inv E c S x M) (hn : 8 ≤ n) : ∃ S', f_X9_beginsCourtings E n S (c + 129) = some ((), S') ∧ MI c S M (fun _ => 0) S' ∧ ∀ f q, gi S' f q = gi S f q := by
  have hS := h.w.lS
  have g538 : gr S 538 (c + 129) = some (c + 129 + 12) := h.s.g 538 129 141 (by decide)
  have l141 : eN E (c + 129 + 12) = 7 := h.L.at 141 7 (by omega) (by decide)
  have key := lp (N := cS M) (P := fun s k => ∀ u g : Nat → Int32, (∀ i, i < s → u i = M (102 + i)) → (∀ i, i < 109 → g i = if 102 ≤ i ∧ i < 102 + s then -1 else M i) → (∀ i, 109 ≤ i → g i = ai S (c + 129 + 1) i) → ∃ S', f_X9_beginsCourtings_L2 E n k (wi (wi S (c + 129 + 1) g) (c + 129 + 12) u) (c + 129) (nI s) = some ((), S') ∧ MI c S M (fun _ => 0) S' ∧ ∀ f q, gi S' f q = gi S f q) ?_ ?_ (cS M) 0 n (by omega) (by omega) (ai S (c + 129 + 12)) (ai S (c + 129 + 1)) (fun i hi => by omega) (fun i hi => by rw [if_neg (by omega)]; exact h.o.2.2.1 i hi) (fun _ _ => rfl)
  · rw [wi_self (a := c + 129 + 1) rfl, wi_self rfl] at key
    exact key
  · intro k u g hu h1 h2
    have o : RWl E (wi (wi S (c + 129 + 1) g) (c + 129 + 12) u) (c + 129) g (-1) := ⟨h.o.1, h.o.2.1, fun i hi => by rw [ai_wi_a (by omega), ai_wi], h.o.2.2.2⟩
    have g4 : g 4 = M 4 := (h1 4 (by omega)).trans (if_neg (by omega))
    refine ⟨wi (wi S (c + 129 + 1) g) (c + 129 + 12) u, by simp only [f_X9_beginsCourtings_L2, o.1, obs, o.2.1, mg4, o.v4, g4, h.w.t4, if_true], ⟨g, fun i hi => ?_, h2, KP.wi (by unfold ka; omega), fun s hs => by rw [ai_wi]; exact hu s hs⟩, fun _ _ => rfl⟩
    rw [h1 i hi]; rfl
  · intro s k hs ih u g hu h1 h2
    have o : RWl E (wi (wi S (c + 129 + 1) g) (c + 129 + 12) u) (c + 129) g (-1) := ⟨h.o.1, h.o.2.1, fun i hi => by rw [ai_wi_a (by omega), ai_wi], h.o.2.2.2⟩
    have g4 : g 4 = M 4 := (h1 4 (by omega)).trans (if_neg (by omega))
    have gs : g (102 + s) = M (102 + s) := (h1 _ (by omega)).trans (if_neg (by omega))
    have e8 : gr (wi (wi S (c + 129 + 1) g) (c + 129 + 12) u) 538 (c + 129) = some (c + 129 + 12) := g538
    have o2 : RWl E (wi (wi S (c + 129 + 1) g) (c + 129 + 12) (upd u s (M (102 + s)))) (c + 129) g (-1) := ⟨h.o.1, h.o.2.1, fun i hi => by rw [ai_wi_a (by omega), ai_wi], h.o.2.2.2⟩
    have sw : ∀ v g2, wi (wi (wi S (c + 129 + 1) g) (c + 129 + 12) v) (c + 129 + 1) g2 = wi (wi S (c + 129 + 1) g2) (c + 129 + 12) v := by
      intro v g2
      rw [wi_comm (by omega), wi_wi]
    have nx := ih (upd u s (M (102 + s))) (upd g (102 + s) (-1)) (fun i hi => by
      by_cases e : i = s
      · subst e; rw [pk_us]
      · rw [pk_un e]; exact hu i (by omega)) (fun i hi => by
      by_cases e : i = 102 + s
      · subst e; rw [pk_us, if_pos ⟨by omega, by omega⟩]
      · rw [pk_un e, h1 i hi]
        by_cases q : 102 ≤ i ∧ i < 102 + s
        · rw [if_pos q, if_pos ⟨q.1, by omega⟩]
        · rw [if_neg q, if_neg (by omega)]) (fun i hi => by rw [pk_un (by omega)]; exact h2 i hi)
    have r : ai (wi (wi S (c + 129 + 1) g) (c + 129 + 12) (upd u s (M (102 + s)))) (c + 129 + 1) = g := by rw [ai_wi_a (by omega), ai_wi]
    simp only [f_X9_beginsCourtings_L2, o.1, obs, o.2.1, mg4, o.v4, g4, h.w.f4 hs, if_false, e8, e_X9_courts o (show s < 7 by omega), gs, bds, l141, nI_clamp (show s < 2 ^ 31 by omega), ifn (rinc (show s < 7 by omega) (show 7 < 2 ^ 31 by omega)), lts, ai_wi, wi_wi, o2.1, ixC, nI_clamp (show 102 + s < 2 ^ 31 by omega), ifn (rinc (show 102 + s < 109 by omega) (show 109 < 2 ^ 31 by omega)), r, sw, nI_1]
    exact nx
/-! the next courting -/
theorem e_X9_next_L21 (h0 : Inv E c S0 x M) (k9 : WS → Nat → Int32 → Option (Int32 × WS)) (hI : MI c S0 M c0 S) {d : Nat} (hd : d < cS M) : ∀ k b, b + k = cB M → ∀ m, k < m → f_X9_nextCourting_L21 E n k9 m S (c + 129) (nI d) (nI b) = match faw M d (4 - b) (b + 1) with
    | some v => some (1, wi S (c + 129 + 1) (upd (ai S (c + 129 + 1)) (102 + d) (nI v - 1)))
    | none => k9 (wi S (c + 129 + 1) (upd (ai S (c + 129 + 1)) (102 + d) (nI 0 - 1))) (c + 129) (nI d - 1) := by
  have hS := h0.w.lS
  have hB := h0.w.lB
  have o := hI.o h0
  have em : nI d + (-1) = nI d - 1 := by rw [Int32.sub_eq_add_neg]
  intro k
  induction k with
  | zero =>
    intro b hb m hm
    obtain ⟨m, rfl⟩ : ∃ q, m = q + 1 := ⟨m - 1, by omega⟩
    rw [faw_none h0.w hd _ _ (by omega), show b = cB M by omega]
    simp only [f_X9_nextCourting_L21, f_X9_nextCourting_J46, o.1, obs, o.2.1, mg3, o.v3, Mc3, h0.w.t3, if_true, ixC, nI_clamp (show 102 + d < 2 ^ 31 by omega), ifn (rinc (show 102 + d < 109 by omega) (show 109 < 2 ^ 31 by omega)), lts, em, crv_0]
  | succ k ih =>
    intro b hb m hm
    obtain ⟨m, rfl⟩ : ∃ q, m = q + 1 := ⟨m - 1, by omega⟩
    have hbB : b < cB M := by omega
    obtain ⟨kk, hkk⟩ : ∃ kk, 4 - b = kk + 1 := ⟨3 - b, by omega⟩
    have hf : alw M d (b + 1) ↔ M (75 + 3 * d) >>> (nI b &&& 31) &&& 1 = 1 := (alw_for h0.w hd hbB).trans (forI_iff h0.w hd hbB)
    rw [hkk, faw]
    simp only [f_X9_nextCourting_L21, o.1, obs, o.2.1, mg3, o.v3, Mc3, h0.w.f3 hbB, if_false, e_X9_isFor o (show d < 7 by omega), bds, Mc_lo (show 75 + 3 * d < 102 by omega)]
    by_cases a : alw M d (b + 1)
    · rw [ifb1 (hf.mp a), if_pos a]
      simp only [f_X9_nextCourting_J46, o.1, obs, o.2.1, mg3, o.v3, Mc3, h0.w.f3 hbB, if_false, ixC, nI_clamp (show 102 + d < 2 ^ 31 by omega), ifn (rinc (show 102 + d < 109 by omega) (show 109 < 2 ^ 31 by omega)), lts, crv_s]
    · rw [ifb0 (fun q => a (hf.mpr q)), if_neg a, lts, nI_1]
      have := ih (b + 1) (by omega) m (by omega)
      rw [show 4 - (b + 1) = kk by omega] at this
      exact this
theorem alc_scd (hc : alc M c0) {d v : Nat} (hv : alw M d v) : alc M (scd c0 d v) := by
  intro s hs
  by_cases e : s = d
  · subst e; rw [scd_at]; exact hv
  · rw [scd_un e]; exact hc s hs
theorem faw_some {M : Nat → Int32} {s : Nat} : ∀ k v w, faw M s k v = some w → alw M s w := by
  intro k
  induction k with
  | zero => intro v w h; cases h
  | succ k ih =>
    intro v w h
    rw [faw] at h
    by_cases a : alw M s v
    · rw [if_pos a] at h; cases h; exact a
    · rw [if_neg a] at h; exact ih _ _ h
theorem nxc_ok : ∀ d c0, alc M c0 → alc M (nxc M d c0).2 := by
  intro d
  induction d with
  | zero => intro c0 h; exact h
  | succ d ih =>
    intro c0 h
    rw [nxc]
    cases e : faw M d (5 - (c0 d + 1)) (c0 d + 1) with
    | some v => exact alc_scd h (faw_some _ _ _ e)
    | none => exact ih _ (alc_scd h alw_0)
theorem e_X9_next_L9 (h0 : Inv E c S0 x M) (hn : 8 ≤ n) : ∀ d, d ≤ cS M → ∀ m, d < m → ∀ S c0, MI c S0 M c0 S → alc M c0 → ∃ g, f_X9_nextCourting_L9 E n m S (c + 129) (nI d - 1) = some (if (nxc M d c0).1 = true then 1 else 0, wi S (c + 129 + 1) g) ∧ MI c S0 M (nxc M d c0).2 (wi S (c + 129 + 1) g) := by
  have hS := h0.w.lS
  have hB := h0.w.lB
  intro d
  induction d with
  | zero =>
    intro _ m hm S c0 hI hc
    obtain ⟨m, rfl⟩ : ∃ q, m = q + 1 := ⟨m - 1, by omega⟩
    refine ⟨ai S (c + 129 + 1), ?_, ?_⟩
    · rw [wi_self rfl]
      simp only [f_X9_nextCourting_L9]
      rw [if_pos (show (nI 0 - 1 : Int32) < 0 by decide)]
      rfl
    · rw [wi_self rfl]; exact hI
  | succ d ih =>
    intro hd m hm S c0 hI hc
    obtain ⟨m, rfl⟩ : ∃ q, m = q + 1 := ⟨m - 1, by omega⟩
    have o := hI.o h0
    have hle : c0 d ≤ cB M := by
      by_cases z : c0 d = 0
      · omega
      · have := hc d (by omega)
        rw [show c0 d = c0 d - 1 + 1 by omega] at this
        have := alw_b h0.w (show d < cS M by omega) this
        omega
    have key := e_X9_next_L21 (n := n) h0 (f_X9_nextCourting_L9 E n m) hI (show d < cS M by omega) (cB M - c0 d) (c0 d) (by omega) n (by omega)
    have e5 : 5 - (c0 d + 1) = 4 - c0 d := by omega
    simp only [f_X9_nextCourting_L9, nI_pred, if_neg (nI_pos (show d < 2 ^ 31 by omega)), e_X9_courts o (show d < 7 by omega), Mc_at (show d < cS M by omega), bds, lts, Int32.sub_add_cancel, key, nxc, e5]
    cases e : faw M d (4 - c0 d) (c0 d + 1) with
    | some v => exact ⟨_, rfl, hI.set h0.w (by omega) v⟩
    | none =>
      obtain ⟨g, e1, e2⟩ := ih (by omega) m (by omega) _ _ (hI.set h0.w (show d < cS M by omega) 0) (alc_scd hc alw_0)
      rw [wi_wi] at e1 e2
      exact ⟨g, e1, e2⟩
theorem e_X9_next (h0 : Inv E c S0 x M) (hn : 8 ≤ n) (hI : MI c S0 M c0 S) (hc : alc M c0) : ∃ S', f_X9_nextCourting E n S (c + 129) = some (if (nxc M (cS M) c0).1 = true then 1 else 0, S') ∧ MI c S0 M (nxc M (cS M) c0).2 S' ∧ (∀ f q, gi S' f q = gi S f q) ∧ ∀ q, q ≠ c + 129 + 1 → ai S' q = ai S q := by
  have hS := h0.w.lS
  have o := hI.o h0
  obtain ⟨g, e1, e2⟩ := e_X9_next_L9 (n := n) h0 hn (cS M) (Nat.le_refl _) n (by omega) S c0 hI hc
  refine ⟨_, ?_, e2, fun _ _ => rfl, fun q hq => ai_wi_a hq⟩
  simp only [f_X9_nextCourting, o.1, obs, o.2.1, mg4, o.v4, Mc4, h0.w.s4, lts]
  exact e1
end SRM
