/-! Hopes -/
theorem tkn_congr2 {c d k l : Nat → Int32} {b : Int32} : ∀ {N : Nat}, N < 2 ^ 31 → (∀ i, i < N → c i = d i) → (∀ i, i < N → k i = l i) → tkn c k b N = tkn d l b N := by
  intro N
  induction N with
  | zero => intro _ _ _; rfl
  | succ s ih =>
    intro hN h h2
    have e := ih (by omega) (fun i hi => h i (by omega)) (fun i hi => h2 i (by omega))
    rw [tkn, tkn, h s (by omega), h2 s (by omega), e]
    rcases tkn_is d l b s (by omega) with q | ⟨j, hj, q, -⟩
    · simp only [q, if_true]
    · rw [q, nI_clamp (show j < 2 ^ 31 by omega), h2 j (by omega)]
theorem rfs_congr2 {c d k l : Nat → Int32} {N s : Nat} (hN : N < 2 ^ 31) (h : ∀ i, i < N → c i = d i) (hk : ∀ i, i < N → k i = l i) (h2 : c s = d s) : rfs c k N s ↔ rfs d l N s := by
  unfold rfs
  rw [h2, tkn_congr2 hN h hk]
abbrev best (c k : Nat → Int32) (b : Int32) (N j : Nat) : Prop := j < N ∧ c j = b ∧ ∀ i, i < N → c i = b → (k i).toInt < (k j).toInt ∨ ((k i).toInt = (k j).toInt ∧ j ≤ i)
theorem tkn_best (c k : Nat → Int32) (b : Int32) : ∀ N, N < 2 ^ 31 → (tkn c k b N = -1 ∧ ∀ i, i < N → c i ≠ b) ∨ ∃ j, tkn c k b N = nI j ∧ best c k b N j := by
  intro N
  induction N with
  | zero => intro _; exact Or.inl ⟨rfl, fun i hi => by omega⟩
  | succ s ih =>
    intro hN
    rw [tkn]
    by_cases c1 : c s = b
    · rw [if_pos c1]
      rcases ih (by omega) with ⟨e, h⟩ | ⟨j, e, h1, h2, h3⟩
      · rw [if_pos e]
        refine Or.inr ⟨s, rfl, by omega, c1, fun i hi q => ?_⟩
        by_cases e2 : i = s
        · subst e2; exact Or.inr ⟨rfl, Nat.le_refl _⟩
        · exact absurd q (h i (by omega))
      · rw [if_neg (by rw [e]; exact nIm1 (by omega)), e, nI_clamp (show j < 2 ^ 31 by omega)]
        by_cases c2 : k s ≤ k j
        · rw [if_pos c2]
          refine Or.inr ⟨j, rfl, by omega, h2, fun i hi q => ?_⟩
          by_cases e2 : i = s
          · subst e2; rw [fa_le] at c2; omega
          · exact h3 i (by omega) q
        · rw [if_neg c2]
          refine Or.inr ⟨s, rfl, by omega, c1, fun i hi q => ?_⟩
          by_cases e2 : i = s
          · subst e2; exact Or.inr ⟨rfl, Nat.le_refl _⟩
          · have := h3 i (by omega) q
            rw [fa_le] at c2; omega
    · rw [if_neg c1]
      rcases ih (by omega) with ⟨e, h⟩ | ⟨j, e, h1, h2, h3⟩
      · refine Or.inl ⟨e, fun i hi => ?_⟩
        by_cases e2 : i = s
        · subst e2; exact c1
        · exact h i (by omega)
      · refine Or.inr ⟨j, e, by omega, h2, fun i hi q => ?_⟩
        by_cases e2 : i = s
        · subst e2; exact absurd q c1
        · exact h3 i (by omega) q
theorem best_un {c k : Nat → Int32} {b : Int32} {N i j : Nat} (h : best c k b N i) (h2 : best c k b N j) : i = j := by
  have a := h.2.2 j h2.1 h2.2.1
  have b := h2.2.2 i h.1 h.2.1
  omega
/-- whether s would be taken by b if he courted her -/
abbrev wbt (c k : Nat → Int32) (b : Int32) (s N : Nat) : Prop := tkn c k b N = -1 ∨ k (tkn c k b N).toNatClampNeg < k s ∨ (k s = k (tkn c k b N).toNatClampNeg ∧ ¬ tkn c k b N ≤ nI s)
theorem wbt_iff {c k : Nat → Int32} {b : Int32} {s N : Nat} (hs : s < N) (hN : N < 2 ^ 31) (hc : c s ≠ b) : tkn (upd c s b) k b N = nI s ↔ wbt c k b s N := by
  have up : ∀ i, i ≠ s → upd c s b i = c i := fun i hi => pk_un hi
  have us : upd c s b s = b := pk_us
  rcases tkn_best (upd c s b) k b N hN with ⟨-, h⟩ | ⟨j, e, hb⟩
  · exact absurd us (h s hs)
  · have e1 : tkn (upd c s b) k b N = nI s ↔ j = s := by
      rw [e]; exact nI_eq (by have := hb.1; omega) (by omega)
    rw [e1]
    rcases tkn_best c k b N hN with ⟨e2, h⟩ | ⟨r, e2, hr⟩
    · constructor
      · intro _; exact Or.inl e2
      · intro _
        apply Classical.byContradiction
        intro q
        have := hb.2.1
        rw [up j q] at this
        exact h j hb.1 this
    · have hrs : r ≠ s := fun q => hc (q ▸ hr.2.1)
      have hrN := hr.1
      unfold wbt
      rw [e2, nI_clamp (show r < 2 ^ 31 by omega), nI_leI (by omega) (by omega), fa_lt, fa_eq (k s) (k r)]
      constructor
      · intro q
        subst q
        have := hb.2.2 r hr.1 (by rw [up r hrs]; exact hr.2.1)
        right; omega
      · intro q
        have q2 : (k r).toInt < (k s).toInt ∨ ((k s).toInt = (k r).toInt ∧ ¬ r ≤ s) := by
          rcases q with q | q
          · exact absurd q (nIm1 (by omega))
          · exact q
        refine best_un hb ⟨hs, us, fun i hi q3 => ?_⟩
        by_cases e3 : i = s
        · subst e3; exact Or.inr ⟨rfl, Nat.le_refl _⟩
        · rw [up i e3] at q3
          have := hr.2.2 i hi q3
          omega
/-- the bride whom s would rather court; -1: none -/
noncomputable def hop (M c : Nat → Int32) (s : Nat) : Int32 := @ite _ (rfs c (kM M) (cS M) s) (Classical.propDecidable _) (ff (fun b => nI b ≠ c s ∧ forI M (nI s) (nI b) ∧ wbt c (kM M) (nI b) s (cS M)) (cB M) 0) (-1)
noncomputable def fho (M c : Nat → Int32) : Int32 := ff (fun s => hop M c s ≠ -1) (cS M) 0
theorem ff_congr {P Q : Nat → Prop} : ∀ {k s : Nat}, (∀ j, s ≤ j → j < s + k → (P j ↔ Q j)) → ff P k s = ff Q k s := by
  intro k
  induction k with
  | zero => intro s _; rfl
  | succ k ih =>
    intro s h
    have e := ih (s := s + 1) (fun j h1 h2 => h j (by omega) (by omega))
    by_cases c : P s
    · rw [ff, ff, if_pos c, if_pos ((h s (by omega) (by omega)).mp c)]
    · rw [ff, ff, if_neg c, if_neg (fun q => c ((h s (by omega) (by omega)).mpr q)), e]
theorem wbt_congr {c d k l : Nat → Int32} {b : Int32} {s N : Nat} (hs : s < N) (hN : N < 2 ^ 31) (h : ∀ i, i < N → c i = d i) (hk : ∀ i, i < N → k i = l i) : wbt c k b s N ↔ wbt d l b s N := by
  unfold wbt
  rw [tkn_congr2 hN h hk, hk s hs]
  rcases tkn_is d l b N hN with q | ⟨j, hj, q, -⟩
  · simp only [q, true_or]
  · rw [q, nI_clamp (show j < 2 ^ 31 by omega), hk j hj]
theorem cE {M N : Nat → Int32} {i : Nat} (e : M i = N i) : (M i).toNatClampNeg = (N i).toNatClampNeg := by rw [e]
theorem hop_congr {M N c d : Nat → Int32} {s : Nat} (hw : WF M) (e : ∀ i, i < 102 → M i = N i) (h : ∀ i, i < 7 → c i = d i) (hs : s < cS M) : hop M c s = hop N d s := by
  have hS := hw.lS
  have hB := hw.lB
  have e4 : cS M = cS N := cE (e 4 (by omega))
  have e3 : cB M = cB N := cE (e 3 (by omega))
  have hk : ∀ i, i < cS M → kM M i = kM N i := fun i hi => e _ (by omega)
  have h' : ∀ i, i < cS M → c i = d i := fun i hi => h i (by omega)
  have r := rfs_congr2 (s := s) (show cS M < 2 ^ 31 by omega) h' hk (h s (by omega))
  have f : ff (fun b => nI b ≠ c s ∧ forI M (nI s) (nI b) ∧ wbt c (kM M) (nI b) s (cS M)) (cB M) 0 = ff (fun b => nI b ≠ d s ∧ forI N (nI s) (nI b) ∧ wbt d (kM N) (nI b) s (cS N)) (cB N) 0 := by
    rw [← e3]
    refine ff_congr (fun j h1 h2 => ?_)
    rw [h s (by omega), ← e4, wbt_congr hs (by omega) h' hk]
    unfold forI
    rw [nI_clamp (show s < 2 ^ 31 by omega), e 4 (by omega), e 3 (by omega), e (75 + 3 * s) (by omega)]
  unfold hop
  rw [f]
  by_cases q : rfs c (kM M) (cS M) s
  · rw [if_pos q, if_pos (by rw [← e4]; exact r.mp q)]
  · rw [if_neg q, if_neg (fun q2 => q (r.mpr (by rw [e4]; exact q2)))]
theorem fho_congr {M N c d : Nat → Int32} (hw : WF M) (e : ∀ i, i < 102 → M i = N i) (h : ∀ i, i < 7 → c i = d i) : fho M c = fho N d := by
  unfold fho
  rw [show cS N = cS M from (cE (e 4 (by omega))).symm]
  exact ff_congr (fun j h1 h2 => by rw [hop_congr hw e h (by omega)])
section HOP
variable {E : EN} {n : Nat} {S : WS} {a : Nat} {M : Nat → Int32}
theorem e_X3_wouldBeTaken (h : RMt E S a M) (hw : WF M) {h1 s : Nat} (hl : eN E h1 = 7) (hn : 8 ≤ n) (hs : s < cS M) (b : Int32) : f_X3_wouldBeTaken E n S a h1 (nI s) b = some (b2i (wbt (ai S h1) (kM M) b s (cS M)), S) := by
  have hS := hw.lS
  simp only [f_X3_wouldBeTaken, e_X3_takenBy h hw hl hn, bds, h.g140, obs, h.n6, nI_clamp (show s < 2 ^ 31 by omega), ifn (rinc (show s < 7 by omega) (show 7 < 2 ^ 31 by omega)), (h.hs s hs).1]
  rcases tkn_is (ai S h1) (kM M) b (cS M) (by omega) with q | ⟨j, hj, q, -⟩
  · rw [if_pos q, b2i_t (Or.inl q)]
  · rw [wbt, q, if_neg (nIm1 (by omega)), nI_clamp (show j < 2 ^ 31 by omega)]
    simp only [ifn (rinc (show j < 7 by omega) (show 7 < 2 ^ 31 by omega)), (h.hs j hj).1]
    by_cases c1 : M (73 + 3 * j) < M (73 + 3 * s)
    · rw [if_pos c1, b2i_t (Or.inr (Or.inl c1))]
    · rw [if_neg c1]
      by_cases c2 : M (73 + 3 * s) = M (73 + 3 * j)
      · rw [if_pos c2]
        by_cases c3 : nI j ≤ nI s
        · rw [if_pos c3, b2i_f]
          rintro (q | q | q)
          · exact nIm1 (by omega) q
          · exact c1 q
          · exact q.2 c3
        · rw [if_neg c3, b2i_t (Or.inr (Or.inr ⟨c2, c3⟩))]
      · rw [if_neg c2, b2i_f]
        rintro (q | q | q)
        · exact nIm1 (by omega) q
        · exact c1 q
        · exact c2 q.1
theorem e_X3_hopeOf (h : RMt E S a M) (hw : WF M) {h1 s : Nat} (hl : eN E h1 = 7) (hn : 8 ≤ n) (hs : s < cS M) : f_X3_hopeOf E n S a h1 (nI s) = some (hop M (ai S h1) s, S) := by
  have hS := hw.lS
  have hB := hw.lB
  simp only [f_X3_hopeOf, e_X3_isRefused h hw hl hn (show s < 7 by omega), bds, b2i_eq0]
  unfold hop
  by_cases c : rfs (ai S h1) (kM M) (cS M) s
  · rw [if_neg (fun q => q c), if_pos c]
    refine (lp (N := cB M) (P := fun b k => f_X3_hopeOf_L13 E n k S a h1 (nI s) (nI b) = some (ff (fun b => nI b ≠ ai S h1 s ∧ forI M (nI s) (nI b) ∧ wbt (ai S h1) (kM M) (nI b) s (cS M)) (cB M - b) b, S)) ?_ ?_ (cB M) 0 n (by omega) (by omega)).trans rfl
    · intro k
      simp only [f_X3_hopeOf_L13, h.i132, hw.t3, if_true, Nat.sub_self, ff]
    · intro b k hb ih
      simp only [f_X3_hopeOf_L13, h.i132, hw.f3 hb, if_false, hl, nI_clamp (show s < 2 ^ 31 by omega), ifn (rinc (show s < 7 by omega) (show 7 < 2 ^ 31 by omega)), e_X3_isFor h hw, e_X3_wouldBeTaken h hw hl hn hs, bds, lts, nI_1, b2i_eq0]
      rw [show cB M - b = (cB M - (b + 1)) + 1 by omega, ff]
      by_cases c1 : nI b = ai S h1 s
      · rw [if_pos c1, if_neg (fun q => q.1 c1)]; exact ih
      · rw [if_neg c1]
        by_cases c2 : forI M (nI s) (nI b)
        · rw [if_neg (fun q => q c2)]
          by_cases c3 : wbt (ai S h1) (kM M) (nI b) s (cS M)
          · rw [if_neg (fun q => q c3), if_pos ⟨c1, c2, c3⟩]
          · rw [if_pos c3, if_neg (fun q => c3 q.2.2)]; exact ih
        · rw [if_pos c2, if_neg (fun q => c2 q.2.1)]; exact ih
  · rw [if_pos c, if_neg c]
theorem e_X3_firstHoping (h : RMt E S a M) (hw : WF M) {h1 : Nat} (hl : eN E h1 = 7) (hn : 8 ≤ n) : f_X3_firstHoping E n S a h1 = some (fho M (ai S h1), S) := by
  have hS := hw.lS
  refine (lp (N := cS M) (P := fun s k => f_X3_firstHoping_L2 E n k S a h1 (nI s) = some (ff (fun s => hop M (ai S h1) s ≠ -1) (cS M - s) s, S)) ?_ ?_ (cS M) 0 n (by omega) (by omega)).trans rfl
  · intro k
    simp only [f_X3_firstHoping_L2, h.i133, hw.t4, if_true, Nat.sub_self, ff]
  · intro s k hs ih
    simp only [f_X3_firstHoping_L2, h.i133, hw.f4 hs, if_false, e_X3_hopeOf h hw hl hn hs, bds, lts, nI_1]
    rw [show cS M - s = (cS M - (s + 1)) + 1 by omega, ff]
    by_cases c : hop M (ai S h1) s = -1
    · rw [if_pos c, if_neg (fun q => q c)]; exact ih
    · rw [if_neg c, if_pos c]
end HOP
