/-! The class's Mountain: what its small readers answer, in the words of M -/
abbrev kM (M : Nat → Int32) : Nat → Int32 := fun s => M (73 + 3 * s)
abbrev oM (M : Nat → Int32) : Nat → Int32 := fun s => M (102 + s)
/-- s is refused -/
abbrev rfs (c k : Nat → Int32) (N s : Nat) : Prop := c s ≠ -1 ∧ tkn c k (c s) N ≠ nI s
abbrev inI (x N : Int32) : Prop := ¬ x < 0 ∧ ¬ N ≤ x
abbrev forI (M : Nat → Int32) (x y : Int32) : Prop := inI x (M 4) ∧ inI y (M 3) ∧ ((M (75 + 3 * x.toNatClampNeg)) >>> (y &&& 31)) &&& 1 = 1
section MTN
variable {E : EN} {n : Nat} {S : WS} {a : Nat} {M : Nat → Int32}
theorem hasI {x N : Int32} : (if x < 0 then some ((0 : Int32), S) else if N ≤ x then some ((0 : Int32), S) else some ((1 : Int32), S)) = some (b2i (inI x N), S) := by
  by_cases h1 : x < 0
  · rw [if_pos h1, b2i_f (fun q => q.1 h1)]
  · rw [if_neg h1]
    by_cases h2 : N ≤ x
    · rw [if_pos h2, b2i_f (fun q => q.2 h2)]
    · rw [if_neg h2, b2i_t ⟨h1, h2⟩]
theorem e_X3_hasPlace (h : RMt E S a M) (x : Int32) : f_X3_hasPlace E n S a x = some (b2i (inI x (M 0)), S) := by
  unfold f_X3_hasPlace; rw [h.i129]; exact hasI
theorem e_X3_hasYear (h : RMt E S a M) (x : Int32) : f_X3_hasYear E n S a x = some (b2i (inI x (M 1)), S) := by
  unfold f_X3_hasYear; rw [h.i130]; exact hasI
theorem e_X3_hasPath (h : RMt E S a M) (x : Int32) : f_X3_hasPath E n S a x = some (b2i (inI x (M 2)), S) := by
  unfold f_X3_hasPath; rw [h.i131]; exact hasI
theorem e_X3_hasBride (h : RMt E S a M) (x : Int32) : f_X3_hasBride E n S a x = some (b2i (inI x (M 3)), S) := by
  unfold f_X3_hasBride; rw [h.i132]; exact hasI
theorem e_X3_hasSuitor (h : RMt E S a M) (x : Int32) : f_X3_hasSuitor E n S a x = some (b2i (inI x (M 4)), S) := by
  unfold f_X3_hasSuitor; rw [h.i133]; exact hasI
theorem e_X3_hasWalker (h : RMt E S a M) (x : Int32) : f_X3_hasWalker E n S a x = some (b2i (inI x (M 5)), S) := by
  unfold f_X3_hasWalker; rw [h.i134]; exact hasI
theorem e_X3_isTold (h : RMt E S a M) : f_X3_isTold E n S a = some (b2i (¬ M 0 ≤ 0), S) := by
  unfold f_X3_isTold; rw [h.i129]
  by_cases h1 : M 0 ≤ 0
  · rw [if_pos h1, b2i_f (fun q => q h1)]
  · rw [if_neg h1, b2i_t h1]
/-- a number within: a place -/
theorem inI_j {x N : Int32} {k : Nat} (hN : N = nI k) (hk : k < 2 ^ 31) (h : inI x N) : ∃ j : Nat, j < k ∧ x = nI j := by
  subst hN
  rcases ixc x hk with (q | q) | q
  · exact absurd q h.1
  · exact absurd q h.2
  · exact q
theorem inI_nI {j k : Nat} (hk : k < 2 ^ 31) (h : j < k) : inI (nI j) (nI k) := ⟨nI_pos (by omega), nI_ge h hk⟩
theorem e_X3_isFor (h : RMt E S a M) (hw : WF M) (x y : Int32) : f_X3_isFor E n S a x y = some (b2i (forI M x y), S) := by
  unfold f_X3_isFor
  rw [e_X3_hasSuitor h, bds]
  by_cases h1 : inI x (M 4)
  · rw [if_neg (fun q => b2i_eq0.mp q h1), e_X3_hasBride h, bds]
    by_cases h2 : inI y (M 3)
    · rw [if_neg (fun q => b2i_eq0.mp q h2), h.g142, obs, h.n8]
      have hS := hw.lS
      obtain ⟨j, hj, rfl⟩ := inI_j hw.s4 (by omega) h1
      rw [if_neg (rin (by omega) (by omega)), nI_clamp (show j < 2 ^ 31 by omega), (h.2.2.2.2.2.1 j hj).2.2]
      by_cases h3 : (M (75 + 3 * j) >>> (y &&& 31)) &&& 1 = 1
      · rw [if_pos h3, b2i_t ⟨h1, h2, by rw [nI_clamp (show j < 2 ^ 31 by omega)]; exact h3⟩]
      · rw [if_neg h3, b2i_f (fun q => h3 (by have := q.2.2; rw [nI_clamp (show j < 2 ^ 31 by omega)] at this; exact this))]
    · rw [if_pos (b2i_eq0.mpr h2), b2i_f (fun q => h2 q.2.1)]
  · rw [if_pos (b2i_eq0.mpr h1), b2i_f (fun q => h1 q.1)]
theorem e_X3_isRefused (h : RMt E S a M) (hw : WF M) {h1 s : Nat} (hl : eN E h1 = 7) (hn : 8 ≤ n) (hs : s < 7) : f_X3_isRefused E n S a h1 (nI s) = some (b2i (rfs (ai S h1) (kM M) (cS M) s), S) := by
  unfold f_X3_isRefused
  rw [hl, if_neg (rin (by omega) (by omega)), nI_clamp (show s < 2 ^ 31 by omega)]
  by_cases c1 : ai S h1 s = -1
  · rw [if_pos c1, b2i_f (fun q => q.1 c1)]
  · rw [if_neg c1, if_neg (rinc (by omega) (by omega)), e_X3_takenBy h hw hl hn, bds]
    by_cases c2 : tkn (ai S h1) (kM M) (ai S h1 s) (cS M) = nI s
    · rw [if_pos c2, b2i_f (fun q => q.2 c2)]
    · rw [if_neg c2, b2i_t ⟨c1, c2⟩]
/-- a path's drop -/
def drp (M : Nat → Int32) (p : Nat) : Int32 := iabs (M (7 + (M (45 + 2 * p)).toNatClampNeg) - M (7 + (M (46 + 2 * p)).toNatClampNeg))
theorem e_X3_dropOf (h : RMt E S a M) (hw : WF M) {p : Nat} (hp : p < cA M) : f_X3_dropOf E n S a (nI p) = some (drp M p, S) := by
  have hA := hw.lA
  have hP := hw.lP
  obtain ⟨u, v, hu, hv, -, eu, ev⟩ := hw.2.2.2.2.2.2.1 p hp
  have e2 := (h.2.2.2.1 p hp).1
  have e3 := (h.2.2.2.1 p hp).2
  unfold f_X3_dropOf drp
  rw [h.g135, obs, h.g136, obs, h.n2, if_neg (rin (by omega) (by omega)), nI_clamp (show p < 2 ^ 31 by omega), e2, eu, h.n1, nI_clamp (show u < 2 ^ 31 by omega), if_neg (rinc (by omega) (by omega)), obs, h.g137, obs, h.n3, if_neg (rinc (by omega) (by omega)), e3, ev, h.n1, nI_clamp (show v < 2 ^ 31 by omega), if_neg (rinc (by omega) (by omega)), h.2.2.1 u (by omega), h.2.2.1 v (by omega)]
/-- whether s, if he courted b, had a step on path p in year y -/
abbrev wst (M : Nat → Int32) (s : Nat) (b p y : Int32) : Prop := inI b (M 3) ∧ M (65 + 2 * b.toNatClampNeg) = p ∧ ¬ y < M (66 + 2 * b.toNatClampNeg) ∧ ¬ M (66 + 2 * b.toNatClampNeg) + M (73 + 3 * s) < y
theorem e_X3_wouldStep (h : RMt E S a M) (hw : WF M) {s : Nat} (hs : s < cS M) (b p y : Int32) : f_X3_wouldStep E n S a (nI s) b p y = some (b2i (wst M s b p y), S) := by
  have hS := hw.lS
  have hB := hw.lB
  unfold f_X3_wouldStep
  rw [h.i132]
  by_cases c1 : b < 0
  · rw [if_pos c1, b2i_f (fun q => q.1.1 c1)]
  · rw [if_neg c1]
    by_cases c2 : M 3 ≤ b
    · rw [if_pos c2, b2i_f (fun q => q.1.2 c2)]
    · rw [if_neg c2]
      obtain ⟨j, hj, rfl⟩ := inI_j hw.s3 (by omega) ⟨c1, c2⟩
      have e1 := h.2.2.2.2.1 j hj
      have e2 := (h.2.2.2.2.2.1 s hs).1
      rw [h.g138, obs, h.n4, nI_clamp (show j < 2 ^ 31 by omega), if_neg (rinc (by omega) (by omega)), e1.1]
      by_cases c3 : M (65 + 2 * j) = p
      · rw [if_pos c3, h.g139, obs, h.n5, if_neg (rinc (by omega) (by omega)), e1.2]
        by_cases c4 : y < M (66 + 2 * j)
        · rw [if_pos c4, b2i_f (fun q => q.2.2.1 (by rw [nI_clamp (show j < 2 ^ 31 by omega)]; exact c4))]
        · rw [if_neg c4, obs, h.n5, if_neg (rinc (by omega) (by omega)), h.g140, obs, h.n6, nI_clamp (show s < 2 ^ 31 by omega), if_neg (rinc (by omega) (by omega)), e1.2, e2]
          by_cases c5 : M (66 + 2 * j) + M (73 + 3 * s) < y
          · rw [if_pos c5, b2i_f (fun q => q.2.2.2 (by rw [nI_clamp (show j < 2 ^ 31 by omega)]; exact c5))]
          · rw [if_neg c5, b2i_t ⟨⟨c1, c2⟩, by rw [nI_clamp (show j < 2 ^ 31 by omega)]; exact ⟨c3, c4, c5⟩⟩]
      · rw [if_neg c3, b2i_f (fun q => c3 (by have := q.2.1; rw [nI_clamp (show j < 2 ^ 31 by omega)] at this; exact this))]
abbrev hst (M : Nat → Int32) (s : Nat) (p y : Int32) : Prop := wst M s (M (102 + s)) p y
theorem e_X3_hasStep (h : RMt E S a M) (hw : WF M) {s : Nat} (hs : s < cS M) (p y : Int32) : f_X3_hasStep E n S a (nI s) p y = some (b2i (hst M s p y), S) := by
  have hS := hw.lS
  unfold f_X3_hasStep
  rw [h.g143, obs, h.n9, if_neg (rin (by omega) (by omega)), nI_clamp (show s < 2 ^ 31 by omega), h.2.2.2.2.2.2.1 s (by omega), e_X3_wouldStep h hw hs, bds, zc_b]
/-- how many steps, but for that of wo, of the first so many suitors -/
def stp (M : Nat → Int32) (p y wo : Int32) : Nat → Nat
  | 0 => 0
  | s + 1 => if nI s = wo then stp M p y wo s else if hst M s p y then stp M p y wo s + 1 else stp M p y wo s
theorem stp_le (M : Nat → Int32) (p y wo : Int32) : ∀ s, stp M p y wo s ≤ s := by
  intro s
  induction s with
  | zero => exact Nat.le_refl _
  | succ s ih =>
    unfold stp
    by_cases c1 : nI s = wo
    · rw [if_pos c1]; omega
    · rw [if_neg c1]
      by_cases c2 : hst M s p y
      · rw [if_pos c2]; omega
      · rw [if_neg c2]; omega
theorem e_X3_stepsOn_L (h : RMt E S a M) (hw : WF M) (p y wo : Int32) : ∀ (k s m : Nat), s + k = cS M → k < m → f_X3_stepsOn_L6 E n m S a p y wo (nI (stp M p y wo s)) (nI s) = some (nI (stp M p y wo (cS M)), S) := by
  have hS := hw.lS
  intro k
  induction k with
  | zero =>
    intro s m hs hm
    obtain ⟨m, rfl⟩ : ∃ q, m = q + 1 := ⟨m - 1, by omega⟩
    unfold f_X3_stepsOn_L6
    rw [h.i133, hw.s4, if_pos (nI_le (by omega) (by omega)), show s = cS M by omega]
  | succ k ih =>
    intro s m hs hm
    obtain ⟨m, rfl⟩ : ∃ q, m = q + 1 := ⟨m - 1, by omega⟩
    unfold f_X3_stepsOn_L6
    rw [h.i133, hw.s4, if_neg (nI_ge (by omega) (by omega))]
    have step := ih (s + 1) m (by omega) (by omega)
    rw [stp] at step
    by_cases c1 : nI s = wo
    · rw [if_pos c1] at step ⊢
      rw [lts, nI_1]; exact step
    · rw [if_neg c1] at step ⊢
      rw [e_X3_hasStep h hw (by omega), bds]
      by_cases c2 : hst M s p y
      · rw [if_pos c2] at step
        rw [if_neg (fun q => b2i_eq0.mp q c2), lts, lts, nI_1, nI_1]; exact step
      · rw [if_neg c2] at step
        rw [if_pos (b2i_eq0.mpr c2), lts, nI_1]; exact step
theorem e_X3_stepsOn (h : RMt E S a M) (hw : WF M) (hn : 8 ≤ n) (p y wo : Int32) : f_X3_stepsOn E n S a p y wo = some (nI (stp M p y wo (cS M)), S) := e_X3_stepsOn_L h hw p y wo (cS M) 0 n (by omega) (by have := hw.lS; omega)
end MTN
