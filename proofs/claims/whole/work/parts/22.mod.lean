/-! The model's world: what its small readers answer, in the words of M -/
def RWl (E : EN) (S : WS) (m : Nat) (M : Nat → Int32) (lo : Int32) : Prop := gr S 513 m = some (m + 1) ∧ eN E (m + 1) = 109 ∧ (∀ i, i < 109 → ai S (m + 1) i = M i) ∧ gi S 527 m = lo
theorem ifn {α : Type} {p : Prop} [d : Decidable p] {x y : α} (h : ¬ p) : (if p then x else y) = y := if_neg h
theorem lp {P : Nat → Nat → Prop} {N : Nat} (h0 : ∀ m, P N (m + 1)) (hs : ∀ s m, s < N → P (s + 1) m → P s (m + 1)) : ∀ k s m, s + k = N → k < m → P s m := by
  intro k
  induction k with
  | zero =>
    intro s m hs hm
    obtain ⟨m, rfl⟩ : ∃ q, m = q + 1 := ⟨m - 1, by omega⟩
    rw [show s = N by omega]; exact h0 m
  | succ k ih =>
    intro s m hs1 hm
    obtain ⟨m, rfl⟩ : ∃ q, m = q + 1 := ⟨m - 1, by omega⟩
    exact hs s m (by omega) (ih (s + 1) m (by omega) (by omega))
theorem ixA (p : Nat) : (45 : Int32) + (2 : Int32) * nI p + 0 = nI (45 + 2 * p) := by
  show nI 45 + nI 2 * nI p + nI 0 = _; rw [pk_mul, nI_add, nI_add]; rfl
theorem ixA1 (p : Nat) : (45 : Int32) + (2 : Int32) * nI p + 1 = nI (46 + 2 * p) := by
  show nI 45 + nI 2 * nI p + nI 1 = _; rw [pk_mul, nI_add, nI_add, show 45 + 2 * p + 1 = 46 + 2 * p by omega]
theorem ixB (p : Nat) : (65 : Int32) + (2 : Int32) * nI p = nI (65 + 2 * p) := by
  show nI 65 + nI 2 * nI p = _; rw [pk_mul, nI_add]
theorem ixB1 (p : Nat) : (65 : Int32) + (2 : Int32) * nI p + 1 = nI (66 + 2 * p) := by
  show nI 65 + nI 2 * nI p + nI 1 = _; rw [pk_mul, nI_add, nI_add, show 65 + 2 * p + 1 = 66 + 2 * p by omega]
theorem ixS (p : Nat) : (73 : Int32) + (3 : Int32) * nI p = nI (73 + 3 * p) := by
  show nI 73 + nI 3 * nI p = _; rw [pk_mul, nI_add]
theorem ixS1 (p : Nat) : (73 : Int32) + (3 : Int32) * nI p + 1 = nI (74 + 3 * p) := by
  show nI 73 + nI 3 * nI p + nI 1 = _; rw [pk_mul, nI_add, nI_add, show 73 + 3 * p + 1 = 74 + 3 * p by omega]
theorem ixS2 (p : Nat) : (73 : Int32) + (3 : Int32) * nI p + 2 = nI (75 + 3 * p) := by
  show nI 73 + nI 3 * nI p + nI 2 = _; rw [pk_mul, nI_add, nI_add, show 73 + 3 * p + 2 = 75 + 3 * p by omega]
theorem ixW (p : Nat) : (94 : Int32) + (2 : Int32) * nI p = nI (94 + 2 * p) := by
  show nI 94 + nI 2 * nI p = _; rw [pk_mul, nI_add]
theorem ixW1 (p : Nat) : (94 : Int32) + (2 : Int32) * nI p + 1 = nI (95 + 2 * p) := by
  show nI 94 + nI 2 * nI p + nI 1 = _; rw [pk_mul, nI_add, nI_add, show 94 + 2 * p + 1 = 95 + 2 * p by omega]
theorem ixC (p : Nat) : (102 : Int32) + nI p = nI (102 + p) := nI_add 102 p
theorem ixH (p : Nat) : (7 : Int32) + nI p = nI (7 + p) := nI_add 7 p
theorem ixR (p : Nat) : (15 : Int32) + nI p = nI (15 + p) := nI_add 15 p
section MOD
variable {E : EN} {n : Nat} {S : WS} {m : Nat} {M : Nat → Int32} {lo : Int32}
/-- a cell of the world, read -/
theorem wrd (h : RWl E S m M lo) {x : Int32} {i : Nat} (hx : x = nI i) (hi : i < 109) {α : Type} {y : Int32 → Option α} : ((gr S 513 m).bind fun b => if x < 0 ∨ eN E b ≤ x.toNatClampNeg then none else y (ai S b x.toNatClampNeg)) = y (M i) := by
  rw [h.1, obs, hx, h.2.1, if_neg (rin hi (by omega)), nI_clamp (by omega), h.2.2.1 i hi]
theorem e_X9_endOf0 (h : RWl E S m M lo) {p : Nat} (hp : p < 10) : f_X9_endOf E n S m (nI p) 0 = some (M (45 + 2 * p), S) := wrd h (y := fun v => some (v, S)) (ixA p) (by omega)
theorem e_X9_endOf1 (h : RWl E S m M lo) {p : Nat} (hp : p < 10) : f_X9_endOf E n S m (nI p) 1 = some (M (46 + 2 * p), S) := wrd h (y := fun v => some (v, S)) (ixA1 p) (by omega)
theorem e_X9_pathOf (h : RWl E S m M lo) {p : Nat} (hp : p < 4) : f_X9_pathOf E n S m (nI p) = some (M (65 + 2 * p), S) := wrd h (y := fun v => some (v, S)) (ixB p) (by omega)
theorem e_X9_yearOf (h : RWl E S m M lo) {p : Nat} (hp : p < 4) : f_X9_yearOf E n S m (nI p) = some (M (66 + 2 * p), S) := wrd h (y := fun v => some (v, S)) (ixB1 p) (by omega)
theorem e_X9_skillOf (h : RWl E S m M lo) {p : Nat} (hp : p < 7) : f_X9_skillOf E n S m (nI p) = some (M (73 + 3 * p), S) := wrd h (y := fun v => some (v, S)) (ixS p) (by omega)
theorem e_X9_spiteOf (h : RWl E S m M lo) {p : Nat} (hp : p < 7) : f_X9_spiteOf E n S m (nI p) = some (M (74 + 3 * p), S) := wrd h (y := fun v => some (v, S)) (ixS1 p) (by omega)
theorem e_X9_leapOf (h : RWl E S m M lo) {p : Nat} (hp : p < 4) : f_X9_leapOf E n S m (nI p) = some (M (94 + 2 * p), S) := wrd h (y := fun v => some (v, S)) (ixW p) (by omega)
theorem e_X9_homeOf (h : RWl E S m M lo) {p : Nat} (hp : p < 4) : f_X9_homeOf E n S m (nI p) = some (M (95 + 2 * p), S) := wrd h (y := fun v => some (v, S)) (ixW1 p) (by omega)
theorem e_X9_courts (h : RWl E S m M lo) {p : Nat} (hp : p < 7) : f_X9_courts E n S m (nI p) = some (M (102 + p), S) := wrd h (y := fun v => some (v, S)) (ixC p) (by omega)
theorem e_X9_places (h : RWl E S m M lo) : f_X9_places E n S m = some (M 0, S) := wrd h (i := 0) (y := fun v => some (v, S)) rfl (by omega)
theorem l1i {N : Nat} (h : N < 2 ^ 31) {x : Int32} : (¬ x < 0 ∧ ¬ (nI N - 1) < x) ↔ inI x (nI N) := by
  constructor
  · intro ⟨h1, h2⟩
    refine ⟨h1, fun h3 => h2 ?_⟩
    rw [Int32.le_iff_toInt_le, nI_toInt h] at h3
    rcases Nat.eq_zero_or_pos N with rfl | hN
    · rw [show nI 0 - 1 = (-1 : Int32) from rfl, Int32.lt_iff_toInt_lt]
      have : (-1 : Int32).toInt = -1 := by decide
      omega
    · obtain ⟨q, rfl⟩ : ∃ q, N = q + 1 := ⟨N - 1, by omega⟩
      rw [nI_pred, Int32.lt_iff_toInt_lt, nI_toInt (by omega)]; omega
  · intro ⟨h1, h2⟩
    refine ⟨h1, fun h3 => h2 ?_⟩
    rw [Int32.le_iff_toInt_le, nI_toInt h]
    rw [Int32.lt_iff_toInt_lt] at h1
    have h0 : (0 : Int32).toInt = 0 := by decide
    rcases Nat.eq_zero_or_pos N with rfl | hN
    · omega
    · obtain ⟨q, rfl⟩ : ∃ q, N = q + 1 := ⟨N - 1, by omega⟩
      rw [nI_pred, Int32.lt_iff_toInt_lt, nI_toInt (by omega)] at h3; omega
theorem isW {x y : Int32} {N : Nat} (hy : y = nI N) (hN : N < 2 ^ 31) : (bd (f_X9_in E n S x.toInt64 (0 : Int64) ((y - 1).toInt64)) fun v S1 => zc v S1) = some (b2i (inI x y), S) := by
  rw [show (0 : Int64) = (0 : Int32).toInt64 by decide, e_in32, bds, zc_b, hy, b2i_c (l1i hN)]
theorem e_X9_isPlace (h : RWl E S m M lo) (hw : WF M) (x : Int32) : f_X9_isPlace E n S m x = some (b2i (inI x (M 0)), S) := by
  unfold f_X9_isPlace; rw [e_X9_places h, bds]; exact isW hw.s0 (by have := hw.lP; omega)
theorem e_X9_isYear (h : RWl E S m M lo) (hw : WF M) (x : Int32) : f_X9_isYear E n S m x.toInt64 = some (b2i (inI x (M 1)), S) :=
  (wrd h (i := 1) (y := fun v => bd (f_X9_in E n S x.toInt64 (0 : Int64) ((v - 1).toInt64)) fun v S1 => zc v S1) rfl (by omega)).trans (isW hw.s1 (by have := hw.lY; omega))
theorem e_X9_isPath (h : RWl E S m M lo) (hw : WF M) (x : Int32) : f_X9_isPath E n S m x.toInt64 = some (b2i (inI x (M 2)), S) :=
  (wrd h (i := 2) (y := fun v => bd (f_X9_in E n S x.toInt64 (0 : Int64) ((v - 1).toInt64)) fun v S1 => zc v S1) rfl (by omega)).trans (isW hw.s2 (by have := hw.lA; omega))
theorem e_X9_isBride (h : RWl E S m M lo) (hw : WF M) (x : Int32) : f_X9_isBride E n S m x = some (b2i (inI x (M 3)), S) :=
  (wrd h (i := 3) (y := fun v => bd (f_X9_in E n S x.toInt64 (0 : Int64) ((v - 1).toInt64)) fun v S1 => zc v S1) rfl (by omega)).trans (isW hw.s3 (by have := hw.lB; omega))
theorem e_X9_isSuitor (h : RWl E S m M lo) (hw : WF M) (x : Int32) : f_X9_isSuitor E n S m x = some (b2i (inI x (M 4)), S) :=
  (wrd h (i := 4) (y := fun v => bd (f_X9_in E n S x.toInt64 (0 : Int64) ((v - 1).toInt64)) fun v S1 => zc v S1) rfl (by omega)).trans (isW hw.s4 (by have := hw.lS; omega))
theorem e_X9_isWalker (h : RWl E S m M lo) (hw : WF M) (x : Int32) : f_X9_isWalker E n S m x = some (b2i (inI x (M 5)), S) :=
  (wrd h (i := 5) (y := fun v => bd (f_X9_in E n S x.toInt64 (0 : Int64) ((v - 1).toInt64)) fun v S1 => zc v S1) rfl (by omega)).trans (isW hw.s5 (by have := hw.lW; omega))
theorem e_X9_isMountain (h : RWl E S m M lo) : f_X9_isMountain E n S m = some (b2i (¬ M 0 ≤ 0), S) := by
  refine (wrd h (i := 0) (y := fun v => if v ≤ 0 then some (0, S) else some (1, S)) rfl (by omega)).trans ?_
  by_cases h1 : M 0 ≤ 0
  · rw [if_pos h1, b2i_f (fun q => q h1)]
  · rw [if_neg h1, b2i_t h1]
theorem RWl.v4 (h : RWl E S m M lo) : ai S (m + 1) (Int32.toNatClampNeg 4) = M 4 := h.2.2.1 4 (by decide)
theorem RWl.v3 (h : RWl E S m M lo) : ai S (m + 1) (Int32.toNatClampNeg 3) = M 3 := h.2.2.1 3 (by decide)
theorem RWl.v2 (h : RWl E S m M lo) : ai S (m + 1) (Int32.toNatClampNeg 2) = M 2 := h.2.2.1 2 (by decide)
theorem RWl.v1 (h : RWl E S m M lo) : ai S (m + 1) (Int32.toNatClampNeg 1) = M 1 := h.2.2.1 1 (by decide)
theorem RWl.v0 (h : RWl E S m M lo) : ai S (m + 1) (Int32.toNatClampNeg 0) = M 0 := h.2.2.1 0 (by decide)
theorem RWl.v5 (h : RWl E S m M lo) : ai S (m + 1) (Int32.toNatClampNeg 5) = M 5 := h.2.2.1 5 (by decide)
theorem RWl.v6 (h : RWl E S m M lo) : ai S (m + 1) (Int32.toNatClampNeg 6) = M 6 := h.2.2.1 6 (by decide)
theorem mg0 {α : Type} {x : Option α} : (if (0 : Int32) < 0 ∨ 109 ≤ Int32.toNatClampNeg 0 then none else x) = x := if_neg (by decide)
theorem mg1 {α : Type} {x : Option α} : (if (1 : Int32) < 0 ∨ 109 ≤ Int32.toNatClampNeg 1 then none else x) = x := if_neg (by decide)
theorem mg2 {α : Type} {x : Option α} : (if (2 : Int32) < 0 ∨ 109 ≤ Int32.toNatClampNeg 2 then none else x) = x := if_neg (by decide)
theorem mg3 {α : Type} {x : Option α} : (if (3 : Int32) < 0 ∨ 109 ≤ Int32.toNatClampNeg 3 then none else x) = x := if_neg (by decide)
theorem mg4 {α : Type} {x : Option α} : (if (4 : Int32) < 0 ∨ 109 ≤ Int32.toNatClampNeg 4 then none else x) = x := if_neg (by decide)
theorem mg5 {α : Type} {x : Option α} : (if (5 : Int32) < 0 ∨ 109 ≤ Int32.toNatClampNeg 5 then none else x) = x := if_neg (by decide)
theorem mg6 {α : Type} {x : Option α} : (if (6 : Int32) < 0 ∨ 109 ≤ Int32.toNatClampNeg 6 then none else x) = x := if_neg (by decide)
theorem WF.t0 (hw : WF M) : M 0 ≤ nI (cP M) := by have := hw.lP; rw [hw.s0]; exact nI_le (Nat.le_refl _) (by omega)
theorem WF.t1 (hw : WF M) : M 1 ≤ nI (cY M) := by have := hw.lY; rw [hw.s1]; exact nI_le (Nat.le_refl _) (by omega)
theorem WF.t2 (hw : WF M) : M 2 ≤ nI (cA M) := by have := hw.lA; rw [hw.s2]; exact nI_le (Nat.le_refl _) (by omega)
theorem WF.t3 (hw : WF M) : M 3 ≤ nI (cB M) := by have := hw.lB; rw [hw.s3]; exact nI_le (Nat.le_refl _) (by omega)
theorem WF.t4 (hw : WF M) : M 4 ≤ nI (cS M) := by have := hw.lS; rw [hw.s4]; exact nI_le (Nat.le_refl _) (by omega)
theorem WF.t5 (hw : WF M) : M 5 ≤ nI (cW M) := by have := hw.lW; rw [hw.s5]; exact nI_le (Nat.le_refl _) (by omega)
theorem WF.f0 (hw : WF M) {s : Nat} (hs : s < cP M) : ¬ M 0 ≤ nI s := fun q => nI_ge hs (by have := hw.lP; omega) (hw.s0 ▸ q)
theorem WF.f1 (hw : WF M) {s : Nat} (hs : s < cY M) : ¬ M 1 ≤ nI s := fun q => nI_ge hs (by have := hw.lY; omega) (hw.s1 ▸ q)
theorem WF.f2 (hw : WF M) {s : Nat} (hs : s < cA M) : ¬ M 2 ≤ nI s := fun q => nI_ge hs (by have := hw.lA; omega) (hw.s2 ▸ q)
theorem WF.f3 (hw : WF M) {s : Nat} (hs : s < cB M) : ¬ M 3 ≤ nI s := fun q => nI_ge hs (by have := hw.lB; omega) (hw.s3 ▸ q)
theorem WF.f4 (hw : WF M) {s : Nat} (hs : s < cS M) : ¬ M 4 ≤ nI s := fun q => nI_ge hs (by have := hw.lS; omega) (hw.s4 ▸ q)
theorem WF.f5 (hw : WF M) {s : Nat} (hs : s < cW M) : ¬ M 5 ≤ nI s := fun q => nI_ge hs (by have := hw.lW; omega) (hw.s5 ▸ q)
theorem e_X9_takenBy (h : RWl E S m M lo) (hw : WF M) (hn : 8 ≤ n) (b : Int32) : f_X9_takenBy E n S m b = some (tkn (oM M) (kM M) b (cS M), S) := by
  have hS := hw.lS
  refine lp (N := cS M) (P := fun s k => f_X9_takenBy_L4 E n k S m b (tkn (oM M) (kM M) b s) (nI s) = some (tkn (oM M) (kM M) b (cS M), S)) ?_ ?_ (cS M) 0 n (by omega) (by omega)
  · intro k
    simp only [f_X9_takenBy_L4, h.1, obs, h.2.1, mg4, h.v4, hw.t4, if_true]
  · intro s k hs ih
    simp only [f_X9_takenBy_L4, h.1, obs, h.2.1, mg4, h.v4, hw.f4 hs, if_false, e_X9_courts h (show s < 7 by omega), e_X9_skillOf h (show s < 7 by omega), bds, lts, nI_1]
    simp only [tkn] at ih
    by_cases c1 : M (102 + s) = b
    · simp only [c1, if_true] at ih ⊢
      by_cases c2 : tkn (oM M) (kM M) b s = -1
      · simp only [c2, if_true] at ih ⊢
        exact ih
      · simp only [c2, if_false] at ih ⊢
        rcases tkn_is (oM M) (kM M) b s (by omega) with q | ⟨j, hj, q, -⟩
        · exact absurd q c2
        · simp only [q, e_X9_skillOf h (show j < 7 by omega), bds, nI_clamp (show j < 2 ^ 31 by omega)] at ih ⊢
          by_cases c3 : M (73 + 3 * s) ≤ M (73 + 3 * j)
          · simp only [c3, if_true] at ih ⊢
            exact ih
          · simp only [c3, if_false] at ih ⊢
            exact ih
    · simp only [c1, if_false] at ih ⊢
      exact ih
theorem e_X9_isRefused (h : RWl E S m M lo) (hw : WF M) (hn : 8 ≤ n) {s : Nat} (hs : s < 7) : f_X9_isRefused E n S m (nI s) = some (b2i (rfs (oM M) (kM M) (cS M) s), S) := by
  simp only [f_X9_isRefused, e_X9_courts h hs, bds, e_X9_takenBy h hw hn]
  by_cases c1 : M (102 + s) = -1
  · simp only [c1, if_true]; rw [b2i_f (fun q => q.1 c1)]
  · simp only [c1, if_false]
    by_cases c2 : tkn (oM M) (kM M) (M (102 + s)) (cS M) = nI s
    · simp only [c2, if_true]; rw [b2i_f (fun q => q.2 c2)]
    · simp only [c2, if_false]; rw [b2i_t ⟨c1, c2⟩]
/-- how many of the first so many -/
noncomputable def cn (P : Nat → Prop) : Nat → Nat
  | 0 => 0
  | s + 1 => @ite _ (P s) (Classical.propDecidable _) (cn P s + 1) (cn P s)
theorem cn_le (P : Nat → Prop) : ∀ s, cn P s ≤ s := by
  intro s
  induction s with
  | zero => exact Nat.le_refl _
  | succ s ih =>
    by_cases c : P s
    · simp only [cn, c, if_true]; omega
    · simp only [cn, c, if_false]; omega
/-- the first from s on -/
noncomputable def ff (P : Nat → Prop) : Nat → Nat → Int32
  | 0, _ => -1
  | k + 1, s => @ite _ (P s) (Classical.propDecidable _) (nI s) (ff P k (s + 1))
theorem ff_is (P : Nat → Prop) : ∀ k s, ff P k s = -1 ∨ ∃ j, s ≤ j ∧ j < s + k ∧ P j ∧ ff P k s = nI j := by
  intro k
  induction k with
  | zero => intro s; exact Or.inl rfl
  | succ k ih =>
    intro s
    by_cases c : P s
    · simp only [ff, c, if_true]; exact Or.inr ⟨s, by omega, by omega, c, rfl⟩
    · simp only [ff, c, if_false]
      rcases ih (s + 1) with q | ⟨j, h1, h2, h3, h4⟩
      · exact Or.inl q
      · exact Or.inr ⟨j, by omega, by omega, h3, h4⟩
theorem add0 (x : Int32) : x + 0 = x := Int32.add_zero x
theorem e_X9_heartsNow (h : RWl E S m M lo) (hw : WF M) (hn : 8 ≤ n) : f_X9_heartsNow E n S m = some (nI (cn (rfs (oM M) (kM M) (cS M)) (cS M)), S) := by
  have hS := hw.lS
  refine lp (N := cS M) (P := fun s k => f_X9_heartsNow_L4 E n k S m (nI (cn (rfs (oM M) (kM M) (cS M)) s)) (nI s) = some (nI (cn (rfs (oM M) (kM M) (cS M)) (cS M)), S)) ?_ ?_ (cS M) 0 n (by omega) (by omega)
  · intro k
    simp only [f_X9_heartsNow_L4, h.1, obs, h.2.1, mg4, h.v4, hw.t4, if_true]
  · intro s k hs ih
    simp only [f_X9_heartsNow_L4, h.1, obs, h.2.1, mg4, h.v4, hw.f4 hs, if_false, e_X9_isRefused h hw hn (show s < 7 by omega), bds, lts, nI_1, b2i_eq0, add0]
    by_cases c : rfs (oM M) (kM M) (cS M) s
    · rw [cn, if_pos c] at ih
      rw [if_neg (fun q => q c)]; exact ih
    · rw [cn, if_neg c] at ih
      rw [if_pos c]; exact ih
theorem e_X9_hasStep (h : RWl E S m M lo) (hw : WF M) {s : Nat} (hs : s < cS M) (p y : Int32) : f_X9_hasStep E n S m (nI s) p y = some (b2i (nI s ≠ lo ∧ hst M s p y), S) := by
  have hS := hw.lS
  have hB := hw.lB
  simp only [f_X9_hasStep, e_X9_courts h (show s < 7 by omega), bds, h.2.2.2]
  rcases hw.2.2.2.2.2.2.2.2.2.2.2.1 s (by omega) with z | q | ⟨b, f, -, hb, q, -⟩
  · have := (hw.2.2.1 z).2.2.2.1; omega
  · rw [q, if_pos rfl, b2i_f]
    rintro ⟨-, q2⟩
    rw [hst, q] at q2
    exact q2.1.1 (by decide)
  · rw [q, if_neg (fun q2 => nI_pos (show b < 2 ^ 31 by omega) (by rw [q2]; decide))]
    by_cases c1 : nI s = lo
    · rw [if_pos c1, b2i_f (fun q2 => q2.1 c1)]
    · rw [if_neg c1, e_X9_pathOf h (show b < 4 by omega), bds]
      by_cases c2 : M (65 + 2 * b) = p
      · rw [if_pos c2]
        simp only [e_X9_yearOf h (show b < 4 by omega), e_X9_skillOf h (show s < 7 by omega), bds, e_in32, b2i_eq0]
        by_cases c3 : ¬ y < M (66 + 2 * b) ∧ ¬ M (66 + 2 * b) + M (73 + 3 * s) < y
        · rw [if_neg (fun q2 => q2 c3), b2i_t]
          refine ⟨c1, ?_⟩
          rw [hst, q]
          refine ⟨(show inI (nI b) (M 3) by rw [hw.s3]; exact inI_nI (by omega) hb), ?_⟩
          rw [nI_clamp (show b < 2 ^ 31 by omega)]
          exact ⟨c2, c3.1, c3.2⟩
        · rw [if_pos c3, b2i_f]
          rintro ⟨-, q2⟩
          rw [hst, q] at q2
          have q3 := q2.2
          rw [nI_clamp (show b < 2 ^ 31 by omega)] at q3
          exact c3 q3.2
      · rw [if_neg c2, b2i_f]
        rintro ⟨-, q2⟩
        rw [hst, q] at q2
        have q3 := q2.2
        rw [nI_clamp (show b < 2 ^ 31 by omega)] at q3
        exact c2 q3.1
theorem e_X9_stepsOf (h : RWl E S m M lo) (hw : WF M) (hn : 8 ≤ n) (p y : Int32) : f_X9_stepsOf E n S m p y = some (nI (stp M p y lo (cS M)), S) := by
  have hS := hw.lS
  refine lp (N := cS M) (P := fun s k => f_X9_stepsOf_L5 E n k S m p y (nI (stp M p y lo s)) (nI s) = some (nI (stp M p y lo (cS M)), S)) ?_ ?_ (cS M) 0 n (by omega) (by omega)
  · intro k
    simp only [f_X9_stepsOf_L5, h.1, obs, h.2.1, mg4, h.v4, hw.t4, if_true]
  · intro s k hs ih
    simp only [f_X9_stepsOf_L5, h.1, obs, h.2.1, mg4, h.v4, hw.f4 hs, if_false, e_X9_hasStep h hw hs, bds, lts, nI_1, b2i_eq0, add0]
    rw [stp] at ih
    by_cases c1 : nI s = lo
    · rw [if_pos c1] at ih
      rw [if_pos (fun q => q.1 c1)]; exact ih
    · rw [if_neg c1] at ih
      by_cases c2 : hst M s p y
      · rw [if_pos c2] at ih
        rw [if_neg (fun q => q ⟨c1, c2⟩)]; exact ih
      · rw [if_neg c2] at ih
        rw [if_pos (fun q => c2 q.2)]; exact ih
theorem e_X9_isFor (h : RWl E S m M lo) {s : Nat} (hs : s < 7) (y : Int32) : f_X9_isFor E n S m (nI s) y = some (b2i (M (75 + 3 * s) >>> (y &&& 31) &&& 1 = 1), S) := by
  refine (wrd h (y := fun v => if v >>> (y &&& 31) &&& 1 = 1 then some ((1 : Int32), S) else some ((0 : Int32), S)) (ixS2 s) (by omega)).trans ?_
  by_cases c : M (75 + 3 * s) >>> (y &&& 31) &&& 1 = 1
  · rw [if_pos c, b2i_t c]
  · rw [if_neg c, b2i_f c]
theorem e_X9_dropOf (h : RWl E S m M lo) (hw : WF M) {p : Nat} (hp : p < cA M) : f_X9_dropOf E n S m (nI p) = some (drp M p, S) := by
  have hA := hw.lA
  have hP := hw.lP
  obtain ⟨u, v, hu, hv, -, eu, ev⟩ := hw.2.2.2.2.2.2.1 p hp
  unfold f_X9_dropOf
  simp only [h.1, obs, e_X9_endOf0 h (show p < 10 by omega), e_X9_endOf1 h (show p < 10 by omega), bds, eu, ev, ixH, h.2.1, nI_clamp (show 7 + u < 2 ^ 31 by omega), nI_clamp (show 7 + v < 2 ^ 31 by omega), ifn (rinc (show 7 + u < 109 by omega) (by omega)), ifn (rinc (show 7 + v < 109 by omega) (by omega)), h.2.2.1 _ (show 7 + u < 109 by omega), h.2.2.1 _ (show 7 + v < 109 by omega)]
  rw [drp, eu, ev, nI_clamp (show u < 2 ^ 31 by omega), nI_clamp (show v < 2 ^ 31 by omega)]
/-- how far one must leap -/
def lpd (d : Int32) (k : Nat) : Int32 := (d + nI k) / nI (k + 1)
def lpv (M : Nat → Int32) (p : Nat) (y lo : Int32) : Int32 := lpd (drp M p) (stp M (nI p) y lo (cS M))
theorem e_X9_leapBy {d : Int32} {k : Nat} (hk : k < 2 ^ 30) : f_X9_leapBy E n S d (nI k) = some (lpd d k, S) := by
  unfold f_X9_leapBy lpd
  rw [nI_1, if_neg (nI_ne0 (by omega) (by omega))]
theorem e_X9_leapNow (h : RWl E S m M lo) (hw : WF M) (hn : 8 ≤ n) {p : Nat} (hp : p < cA M) (y : Int32) : f_X9_leapNow E n S m (nI p) y = some (lpv M p y lo, S) := by
  have h7 := stp_le M (nI p) y lo (cS M)
  have hS := hw.lS
  simp only [f_X9_leapNow, e_X9_dropOf h hw hp, e_X9_stepsOf h hw hn, bds, e_X9_leapBy (show stp M (nI p) y lo (cS M) < 2 ^ 30 by omega)]
  rfl
/-- the chance, in the hundredth, of a fall -/
def fal (M : Nat → Int32) (s y : Nat) : Int32 := imin 100 (M (15 + y) + if rfs (oM M) (kM M) (cS M) s then M (74 + 3 * s) else 0)
theorem e_X9_fallOf (h : RWl E S m M lo) (hw : WF M) (hn : 8 ≤ n) {s y : Nat} (hs : s < 7) (hy : y < 30) : f_X9_fallOf E n S m (nI s) (nI y) = some (fal M s y, S) := by
  simp only [f_X9_fallOf, h.1, obs, ixR, h.2.1, nI_clamp (show 15 + y < 2 ^ 31 by omega), ifn (rinc (show 15 + y < 109 by omega) (by omega)), e_X9_isRefused h hw hn hs, e_X9_spiteOf h hs, bds, b2i_eq0, h.2.2.1 _ (show 15 + y < 109 by omega), fal]
  by_cases c : rfs (oM M) (kM M) (cS M) s
  · rw [if_neg (fun q => q c), if_pos c]
  · rw [if_pos c, if_neg c]
def saf (M : Nat → Int32) (p : Int32) (y : Nat) (x : Int64) : Nat → Int64
  | 0 => x
  | s + 1 => if hst M s p (nI y) then saf M p y x s / 100 * (100 - fal M s y).toInt64 else saf M p y x s
theorem c100 : ¬ ((100 : Int64) = 0) := by decide
theorem nIm1 {s : Nat} (h : s < 2 ^ 31) : ¬ nI s = -1 := fun q => nI_pos h (by rw [q]; decide)
theorem e_X9_safeBy (h : RWl E S m M (-1)) (hw : WF M) (hn : 8 ≤ n) (p : Int32) {y : Nat} (hy : y < 30) (x : Int64) : f_X9_safeBy E n S m x p (nI y) = some (saf M p y x (cS M), S) := by
  have hS := hw.lS
  refine lp (N := cS M) (P := fun s k => f_X9_safeBy_L6 E n k S m p (nI y) (saf M p y x s) (nI s) = some (saf M p y x (cS M), S)) ?_ ?_ (cS M) 0 n (by omega) (by omega)
  · intro k
    simp only [f_X9_safeBy_L6, h.1, obs, h.2.1, mg4, h.v4, hw.t4, if_true]
  · intro s k hs ih
    simp only [f_X9_safeBy_L6, h.1, obs, h.2.1, mg4, h.v4, hw.f4 hs, if_false, e_X9_hasStep h hw hs, bds, lts, nI_1, b2i_eq0, e_X9_fallOf h hw hn (show s < 7 by omega) hy, c100]
    rw [saf] at ih
    by_cases c2 : hst M s p (nI y)
    · rw [if_pos c2] at ih
      rw [if_neg (fun q => q ⟨nIm1 (by omega), c2⟩)]; exact ih
    · rw [if_neg c2] at ih
      rw [if_pos (fun q => c2 q.2)]; exact ih
theorem pb_step {α : Type} {u v a b : Int32} {X Y : α} : (if u = a then if v = b then X else (if u = b then if v = a then X else Y else Y) else (if u = b then if v = a then X else Y else Y)) = @ite _ ((u = a ∧ v = b) ∨ (u = b ∧ v = a)) (Classical.propDecidable _) X Y := by
  by_cases c1 : u = a <;> by_cases c2 : v = b <;> by_cases c3 : u = b <;> by_cases c4 : v = a <;> simp_all
/-- the path between two places -/
abbrev isb (M : Nat → Int32) (a b : Int32) (p : Nat) : Prop := (M (45 + 2 * p) = a ∧ M (46 + 2 * p) = b) ∨ (M (45 + 2 * p) = b ∧ M (46 + 2 * p) = a)
noncomputable abbrev pbt (M : Nat → Int32) (a b : Int32) : Int32 := ff (isb M a b) (cA M) 0
theorem e_X9_pathBetween (h : RWl E S m M lo) (hw : WF M) (hn : 11 ≤ n) (a b : Int32) : f_X9_pathBetween E n S m a b = some (pbt M a b, S) := by
  have hA := hw.lA
  refine (lp (N := cA M) (P := fun s k => f_X9_pathBetween_L2 E n k S m a b (nI s) = some (ff (isb M a b) (cA M - s) s, S)) ?_ ?_ (cA M) 0 n (by omega) (by omega)).trans rfl
  · intro k
    simp only [f_X9_pathBetween_L2, h.1, obs, h.2.1, mg2, h.v2, hw.t2, if_true, Nat.sub_self, ff]
  · intro s k hs ih
    simp only [f_X9_pathBetween_L2, f_X9_pathBetween_J32, h.1, obs, h.2.1, mg2, h.v2, hw.f2 hs, if_false, e_X9_endOf0 h (show s < 10 by omega), e_X9_endOf1 h (show s < 10 by omega), bds, lts, nI_1]
    rw [show cA M - s = (cA M - (s + 1)) + 1 by omega, ff]
    rw [pb_step]
    by_cases c : isb M a b s
    · rw [if_pos c, if_pos c]
    · rw [if_neg c, if_neg c]; exact ih
/-- the paths that one who leaps so far can go -/
def opn (M : Nat → Int32) (l y lo : Int32) : Nat → Int32
  | 0 => 0
  | p + 1 => if l < lpv M p y lo then opn M l y lo p else opn M l y lo p ||| ((1 : Int32) <<< (nI p &&& 31))
theorem si_si {S : WS} {f a : Nat} {v w : Int32} : si (si S f a v) f a w = si S f a w := by
  unfold si u2
  simp only [Prod.mk.injEq, and_true]
  funext g b
  by_cases c : g = f ∧ b = a <;> simp [c]
theorem RWl.si8 (h : RWl E S m M lo) {v : Int32} : RWl E (si S 528 m v) m M lo := ⟨h.1, h.2.1, h.2.2.1, (gi_si_f (by decide)).trans h.2.2.2⟩
theorem e_X9_opens (h : RWl E S m M lo) (hw : WF M) (hn : 11 ≤ n) (l y : Int32) : f_X9_opens E n S m l y = some ((), si S 528 m (opn M l y lo (cA M))) := by
  have hA := hw.lA
  refine lp (N := cA M) (P := fun s k => f_X9_opens_L7 E n k (si S 528 m (opn M l y lo s)) m l y (nI s) = some ((), si S 528 m (opn M l y lo (cA M)))) ?_ ?_ (cA M) 0 n (by omega) (by omega)
  · intro k
    have h := h.si8 (v := opn M l y lo (cA M))
    simp only [f_X9_opens_L7, h.1, obs, h.2.1, mg2, h.v2, hw.t2, if_true]
  · intro s k hs ih
    have h := h.si8 (v := opn M l y lo s)
    simp only [f_X9_opens_L7, h.1, obs, h.2.1, mg2, h.v2, hw.f2 hs, if_false, e_X9_leapNow h hw (show 8 ≤ n by omega) hs, bds, lts, nI_1, gi_si_eq, si_si, Int32.or_zero]
    rw [opn] at ih
    by_cases c : l < lpv M s y lo
    · rw [if_pos c] at ih ⊢; exact ih
    · rw [if_neg c] at ih ⊢; exact ih
end MOD
